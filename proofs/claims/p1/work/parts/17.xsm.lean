theorem st_same {fs : List Value} {k : Nat} {v : Value} (h : fs[k]? = some v) : fs.set k v = fs := by
  refine List.ext_getElem? (fun j => ?_)
  rw [List.getElem?_set]
  split
  · rename_i e
    subst e
    rw [if_pos (st_lt h)]
    exact h.symm
  · rfl
