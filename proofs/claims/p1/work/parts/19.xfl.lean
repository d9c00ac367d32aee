def R_Ar : String := "java/util/Arrays"
theorem wx_funL {D : va_G} {cl : List vw_C} {ws : va_W} {H : Heap} {k a n : Nat} {cA : ClassId} {f g : Nat → Int64} (hP : va_P D cl ws H) (hk : ws[k]? = some (a, .inl (cA, n, .inr (.inl f)))) (h : ∀ j, j < n → f j = g j) : va_P D cl (ws.set k (a, .inl (cA, n, .inr (.inl g)))) H := by
  intro j q hq
  rw [List.getElem?_set] at hq
  split at hq
  · rename_i e
    subst e
    have hlt := (List.getElem?_eq_some_iff.mp hk).1
    rw [if_pos hlt] at hq
    cases hq
    have h1 := hP k _ hk
    show H[a]? = some (vp_cell cA (n, .inr (.inl g)))
    have h2 : H[a]? = some (vp_cell cA (n, .inr (.inl f))) := h1
    rw [h2]
    have e1 : arrV cA n (fun j => Value.long (f j)) = arrV cA n (fun j => Value.long (g j)) := arrV_ext (fun j hj => by rw [h j hj])
    exact congrArg some e1
  · exact hP j q hq
theorem wx_DL {A : Nat → Prop} {ws : va_W} {k a n : Nat} {cA : ClassId} {f g : Nat → Int64} (hD : va_D A ws) (hk : ws[k]? = some (a, .inl (cA, n, .inr (.inl f)))) : va_D A (ws.set k (a, .inl (cA, n, .inr (.inl g)))) := hD.set hk
theorem lp_fillL {f : Nat → Int64} {i : Nat} {v : Int64} (h : ∀ j, j < i → f j = v) (hi : i < 2147483648) : ∀ j, j < i + 1 → vp_updL f ((nI i) : Int32).toNatClampNeg v j = v := by
  intro j hj
  rw [nI_clamp (by omega)]
  by_cases e : j = i
  · rw [e]; exact pk_uLs
  · rw [pk_uLn e]; exact h j (by omega)
