theorem ir_in2 {x a b : Int32} {n : Nat} (h : ¬ x < a) (h2 : ¬ b ≤ x) (ha : 0 ≤ a.toInt) (hb : b.toInt ≤ n) : vp_in x n := by
  rw [vp_in_iff]; simp only [Int32.lt_iff_toInt_lt, Int32.le_iff_toInt_le] at *; omega
theorem tb_S2 {a : Cond} {own : String} {idx n : Nat} {y : MethodName} {b : ByteArray} {r : Option FieldType} (h1 : Cond.methodLink own idx y ∈ lw_gd) (h2 : Cond.static y ∈ lw_gd) (h4 : Cond.initialized y.cls ∈ lw_gd) (h5 : Cond.code y b n r ∈ lw_gd) : GoodIn (a :: lw_gd) (va_wsS own idx y (.code y b n r :: lw_gd)) := tb_inA (fun w hw => by
  rcases List.mem_append.mp hw with hw | hw
  · simp only [List.mem_cons, List.not_mem_nil, or_false] at hw
    rcases hw with e | e | e <;> rw [e] <;> assumption
  · rcases List.mem_cons.mp hw with e | hw
    · rw [e]; exact h5
    · exact hw)
