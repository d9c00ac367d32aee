
/-! THE CLAIM OUT OF ONE WALK OF THE LAW'S BODY. Your part is whole_start (and what it stands on); all else here is the same for every law, but numbers. -/
def R_law : String := "BreweryHouseLaw"
def lw_P (b : Addr) (xs : List Int32) (args : Array Value) (s : State) : Prop := args = #[.ref b] ∧ s.IntsAt b xs ∧ xs.length ≤ 6 ∧ (Jvm.Cond.and given_1 narrow_1).before args s = true
def lw_Q (_ : Array Value) (s : State) (o : Outcome) (t : State) : Prop := o = .returned (some (.int 1)) ∧ Framed s o t [] 600000 7302250
def lw_Z (below : List Frame) (a : Array Value) (s : State) : State → Prop := fun t => ∃ o, t.status = .running ∧ Ended t below o ∧ lw_Q a s o t
/-- the law's own end, with 1 on the stack, nothing written that was there before, its room as the claim has it -/
theorem lw_ret {p : Program} {l : Launch} {e : Env} {s : State} {m : MethodId} {below : List Frame} {meth : Method} {c : Code} {b : Nat} (hx : p.tables.exec = Jvm.exec) (hb : c.code = code) (hr : meth.sig.returnType = ret) (hlocks : meth.locks = false) {pc : Nat} {H : Heap} {ls : Array Slot} (hdg : decode code pc = .ok (.ireturn, 1)) : W p l e room_1 s m #[Value.ref b] below meth c H [] 600000 7302250 (lw_Z below #[Value.ref b] s) (F0 m pc ls [.int 1]) := by
  intro T hT X
  obtain ⟨fs, hret, hrun, hended, hW, hframe⟩ := X.leave (v := some (.int 1)) (hlocks := hlocks) (fun h => by rw [hr] at h; cases h)
  have hmeth' : T.vm.method? m = some meth := X.method'
  refine ⟨T.setFrames fs, ?_, .returned (some (.int 1)), hrun, hended, rfl, ⟨_, rfl⟩, hW, hframe⟩
  jvm_step X.here [X.here.top, hx, hb, hdg, hmeth', hr, ret, narrow_b1]
  (try refine ⟨rfl, ?_⟩); (try refine ⟨rfl, ?_⟩)
  first | (intro acts; rw [hret _ acts rfl rfl rfl]) | rw [hret _ _ rfl rfl rfl]
  exact Steps.refl _
/-- what holds at the law's entry: the machine, the code, the tables' words (any of lw_tbl by 'hts w (by decide +kernel)'), the script of L ints xs at the cell b, what the Statement gives of the start (any of its parts by flat_of_before) -/
def lw_At (p : Program) (s : State) (m : MethodId) (meth : Method) (c : Code) (b L : Nat) (xs : Nat → Int32) : Prop :=
  p.tables.exec = Jvm.exec ∧ c.code = code ∧ meth.sig.returnType = ret ∧ c.maxLocals = 4 ∧ s.vm.findClass R_law = some m.cls ∧ (∀ w ∈ lw_tbl, w.before #[Value.ref b] s = true) ∧ va_X b L xs s s.heap ∧ b < s.heap.size ∧ meth.locks = false ∧ (Jvm.Cond.and given_1 narrow_1).before #[Value.ref b] s = true
def lw_w0 : Cond := .initialized "BreweryHouse"
theorem lw_w0_in : lw_w0 ∈ lw_gd := mw_1
theorem i_31 (x : Int32) : x ≤ 31 ↔ ¬ 32 ≤ x := by
  simp only [Int32.le_iff_toInt_le, show (31 : Int32).toInt = 31 from by decide, show (32 : Int32).toInt = 32 from by decide]; omega
theorem i_32 (x : Int32) : 31 < x ↔ 32 ≤ x := by
  simp only [Int32.le_iff_toInt_le, Int32.lt_iff_toInt_lt, show (31 : Int32).toInt = 31 from by decide, show (32 : Int32).toInt = 32 from by decide]; omega
theorem i_10 (x : Int32) : 9 < x ↔ 10 ≤ x := by
  simp only [Int32.le_iff_toInt_le, Int32.lt_iff_toInt_lt, show (9 : Int32).toInt = 9 from by decide, show (10 : Int32).toInt = 10 from by decide]; omega
theorem i_4 (x : Int32) : 4 < x ↔ ¬ x ≤ 4 := Int32.not_le.symm
theorem eq_act (k : Int32) : fn_Bh_act k = fn_Mo_act k := by
  unfold fn_Bh_act fn_Mo_act; simp only [i_31]; by_cases h : k < 0 <;> by_cases g : 32 ≤ k <;> simp [h, g]
theorem eq_bars (k : Int32) : fn_Bh_bars k = fn_Mr_act1 k := by
  unfold fn_Bh_bars fn_Mr_act1; simp only [i_31]; by_cases h : k < 0 <;> by_cases g : 32 ≤ k <;> simp [h, g]
theorem eq_watch (c w x : Int32) (v : Int64) : fn_Bh_watch c w x v = fn_Mo_watch c w x v := rfl
theorem eq_lasts (a b : Int32) : fn_Bh_lasts a b = fn_Mo_lasts a b := rfl
theorem eq_need (a b c : Int32) : fn_Bh_need a b c = fn_Mo_need a b c := rfl
theorem eq_may (a b : Int32) : fn_Bh_may a b = fn_Mo_may a b := rfl
theorem eq_danger (a : Int32) : fn_Bh_danger a = fn_Mo_danger a := rfl
theorem eq_tick (a : Int32) : fn_Bh_tick a = fn_Mo_tick a := rfl
theorem eq_bind (k w x y z : Int32) : fn_Ac_tie k w x y z = fn_Mo_bind k w x y z := by
  unfold fn_Ac_tie fn_Mo_bind; simp only [i_32, i_10, i_4]
  by_cases h1 : k < 0
  · simp [h1]
  by_cases h2 : 32 ≤ k
  · simp [h1, h2]
  by_cases h3 : w < 0
  · simp [h1, h2, h3]
  by_cases h4 : w ≤ 4 <;> simp [h1, h2, h3, h4]
theorem eq_end (a b : Int32) : fn_Bh_end a b = fn_Mo_end a b := by
  unfold fn_Bh_end fn_Mo_end
  by_cases h1 : a < 0 <;> by_cases h2 : 2 < a <;> by_cases h3 : b < 0 <;> by_cases h4 : 4000 < b <;> by_cases h5 : 0 < b <;> by_cases h6 : a = 0 <;> by_cases h7 : a = 1 <;> by_cases h8 : a = 2 <;> simp [h1, h2, h3, h4, h5, h6, h7, h8]
