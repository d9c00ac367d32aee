theorem ap_l {w v : va_W} {k : Nat} {q : Nat × va_E} (h : w[k]? = some q) : (w ++ v)[k]? = some q := by
  rw [List.getElem?_append_left (List.getElem?_eq_some_iff.mp h).1]; exact h
theorem ap_r {w v : va_W} {k : Nat} {q : Nat × va_E} (h : v[k]? = some q) : (w ++ v)[w.length + k]? = some q := by
  rw [List.getElem?_append_right (Nat.le_add_right _ _), Nat.add_sub_cancel_left]; exact h
theorem jn_app {A0 : Nat → Prop} {D : va_G} {cl : List vw_C} {w wc w1 : va_W} {H H1 : Heap} (hP : va_P D cl (w ++ wc) H) (hD : va_D A0 (w ++ wc)) (hk : ∀ q : Nat, q < H.size → ¬ va_A wc H.size q → H1[q]? = H[q]?) (hF : ∀ q, va_A wc H.size q → A0 q) (hP1 : va_P D cl w1 H1) (hD1 : va_D (va_A wc H.size) w1) : va_P D cl (w ++ w1) H1 ∧ va_D A0 (w ++ w1) := by
  have apart : ∀ (k : Nat) (q : Nat × va_E), w[k]? = some q → q.1 < H.size ∧ ¬ va_A wc H.size q.1 := by
    intro k q hq
    have hl := (hP k q (ap_l hq)).lt
    refine ⟨hl, fun h => ?_⟩
    rcases h with ⟨k2, e, h⟩ | h
    · have hij := hD.1 k (w.length + k2) q (q.1, e) (ap_l hq) (ap_r h) rfl
      have := (List.getElem?_eq_some_iff.mp hq).1
      omega
    · omega
  refine ⟨va_P.app (fun k q hq => ?_) hP1, va_D.app ⟨fun i j x y hi hj e => hD.1 i j x y (ap_l hi) (ap_l hj) e, fun k q hq => hD.2 k q (ap_l hq)⟩ (hD1.weaken (fun k q _ h => hF q.1 h)) (fun i j x y hx hy hxy => ?_)⟩
  · obtain ⟨g1, g2⟩ := apart k q hq
    exact (hP k q (ap_l hq)).kept (hk q.1 g1 g2)
  · exact (apart i x hx).2 (by rw [hxy]; exact hD1.2 j y hy)
theorem sf_P {D : va_G} {cl : List vw_C} {w v : va_W} {H : Heap} (h : va_P D cl (w ++ v) H) : va_P D cl v H := fun k q hk => h (w.length + k) q (ap_r hk)
theorem sf_D {A : Nat → Prop} {w v : va_W} (h : va_D A (w ++ v)) : va_D A v := ⟨fun i j x y hi hj e => by have := h.1 _ _ x y (ap_r hi) (ap_r hj) e; omega, fun k q hk => h.2 _ q (ap_r hk)⟩
theorem p_sub {D : va_G} {cl : List vw_C} {ws ws' : va_W} {H : Heap} (h : va_P D cl ws H) {is : List Nat} (hs : is.map (fun i => ws[i]?) = ws'.map some) : va_P D cl ws' H := by
  intro k q hk
  have h1 : (is.map (fun i => ws[i]?))[k]? = some (some q) := by rw [hs, List.getElem?_map, hk]; rfl
  rw [List.getElem?_map] at h1
  cases hi : is[k]? with
  | none => rw [hi] at h1; cases h1
  | some i => rw [hi] at h1; exact h i q (Option.some.inj h1)
theorem hs_n {ws : va_W} : ([] : List Nat).map (fun i => ws[i]?) = ([] : va_W).map some := rfl
theorem hs_c {ws ws' : va_W} {i : Nat} {is : List Nat} {q : Nat × va_E} (h : ws[i]? = some q) (t : is.map (fun i => ws[i]?) = ws'.map some) : (i :: is).map (fun i => ws[i]?) = (q :: ws').map some := by
  rw [List.map_cons, List.map_cons, t, h]
