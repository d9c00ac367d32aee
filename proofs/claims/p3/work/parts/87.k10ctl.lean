theorem arrV_ext {cA : ClassId} {n : Nat} {f g : Nat → Value} (h : ∀ j, j < n → f j = g j) : arrV cA n f = arrV cA n g := by
  have e : (fun j : Fin n => f j.val) = (fun j : Fin n => g j.val) := funext (fun j => h j.val j.isLt)
  show ({ cls := cA, slots := Array.ofFn (n := n) fun j => f j.val, vm := .none } : Cell) = { cls := cA, slots := Array.ofFn (n := n) fun j => g j.val, vm := .none }
  rw [e]
theorem wx_fun {D : va_G} {cl : List vw_C} {ws : va_W} {H : Heap} {k a n : Nat} {cA : ClassId} {f g : Nat → Int32} (hP : va_P D cl ws H) (hk : ws[k]? = some (a, .inl (cA, n, .inl f))) (h : ∀ j, j < n → f j = g j) : va_P D cl (ws.set k (a, .inl (cA, n, .inl g))) H := by
  intro j q hq
  rw [List.getElem?_set] at hq
  split at hq
  · rename_i e
    subst e
    have hlt := (List.getElem?_eq_some_iff.mp hk).1
    rw [if_pos hlt] at hq
    cases hq
    have h1 := hP k _ hk
    show H[a]? = some (vp_cell cA (n, .inl g))
    have h2 : H[a]? = some (vp_cell cA (n, .inl f)) := h1
    rw [h2]
    have e1 : arrV cA n (fun j => Value.int (f j)) = arrV cA n (fun j => Value.int (g j)) := arrV_ext (fun j hj => by rw [h j hj])
    exact congrArg some e1
  · exact hP j q hq
theorem wx_D {A : Nat → Prop} {ws : va_W} {k a n : Nat} {cA : ClassId} {f g : Nat → Int32} (hD : va_D A ws) (hk : ws[k]? = some (a, .inl (cA, n, .inl f))) : va_D A (ws.set k (a, .inl (cA, n, .inl g))) := hD.set hk
theorem lp_fill {f : Nat → Int32} {i : Nat} {v : Int32} (h : ∀ j, j < i → f j = v) (hi : i < 2147483648) : ∀ j, j < i + 1 → upd f ((nI i) : Int32).toNatClampNeg v j = v := by
  intro j hj
  rw [nI_clamp (by omega)]
  by_cases e : j = i
  · rw [e]; exact pk_us
  · rw [pk_un e]; exact h j (by omega)
