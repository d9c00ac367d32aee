def nw_is : Cond → Bool
  | .fieldLinkNest .. | .methodLinkNest .. => true
  | _ => false
def lw_nest : List Cond := tables_1.filter nw_is
theorem nw_mem {w : Cond} {i : Nat} (h : tables_1[i]? = some w) (hg : nw_is w = true) : w ∈ lw_nest := List.mem_filter.mpr ⟨List.mem_of_getElem? h, hg⟩
/-- the classes, the array classes, and the links between nest mates, as a state has them -/
def KK (dC : Nat → ClassId) (dI : Nat → Nat → Nat) (cI cB cZ cJ : ClassId) (U : State) : Prop := va_K (dC, dI) classes (tys4 cI cB cZ cJ) U ∧ ∀ w ∈ lw_nest, va_Nw w U
theorem KK.same {dC : Nat → ClassId} {dI : Nat → Nat → Nat} {cI cB cZ cJ : ClassId} {u U : State} (h : u.vm = U.vm) (hK : KK dC dI cI cB cZ cJ u) : KK dC dI cI cB cZ cJ U := by
  refine ⟨va_K.moved (h ▸ Vm.Alike.refl u.vm) hK.1, fun w hw => ?_⟩
  have h1 := hK.2 w hw
  have h2 : nw_is w = true := (List.mem_filter.mp hw).2
  cases w <;> first | (cases h2; done) | exact va_Nw.same rfl h h1
theorem KK.warm {dC : Nat → ClassId} {dI : Nat → Nat → Nat} {cI cB cZ cJ : ClassId} {s U : State} (hW : s.WarmedH U.vm) (hK : KK dC dI cI cB cZ cJ s) : KK dC dI cI cB cZ cJ U := by
  refine ⟨va_K.moved hW.alike hK.1, fun w hw => ?_⟩
  have h1 := hK.2 w hw
  have h2 : nw_is w = true := (List.mem_filter.mp hw).2
  cases w <;> first | (cases h2; done) | exact va_Nw.warmF hW h1 | exact va_Nw.warmM hW h1
def PW (dC : Nat → ClassId) (dI : Nat → Nat → Nat) (cI cB cZ cJ : ClassId) (ws : va_W) (sz : Nat) : State → Prop := fun U => U.heap.size = sz ∧ va_P (dC, dI) classes ws U.heap ∧ KK dC dI cI cB cZ cJ U ∧ va_D (fun _ => True) ws
theorem pw_blind {dC : Nat → ClassId} {dI : Nat → Nat → Nat} {cI cB cZ cJ : ClassId} {ws : va_W} {sz : Nat} {av : List Value} : FrameBlind (va_Pc av (PW dC dI cI cB cZ cJ ws sz)) := fun a U g mk q => by
  obtain ⟨q0, q1, qP, qK, qD⟩ := q
  exact ⟨q0, q1, qP, KK.same (u := U) (U := U.calling g mk a) rfl qK, qD⟩
theorem pw_pre {dC : Nat → ClassId} {dI : Nat → Nat → Nat} {cI cB cZ cJ : ClassId} {ws : va_W} {av : List Value} {s : State} {H : Heap} {A : Nat → Prop} (hP : va_P (dC, dI) classes ws H) (hK : KK dC dI cI cB cZ cJ s) (hD : va_D A ws) : ∀ U : State, U.heap = H → s.WarmedH U.vm → va_Pc av (PW dC dI cI cB cZ cJ ws H.size) av.toArray U := fun U hU hW => ⟨rfl, by rw [hU], by rw [hU]; exact hP, hK.warm hW, hD.weaken (fun _ _ _ _ => trivial)⟩
theorem pu_free {A : Nat → Prop} {H0 H : Heap} {locs : List Loc} (hS : va_S A H0 H locs) (hA : ∀ q, H0.size ≤ q → A q) : ∀ q, va_A [] H.size q → A q := fun q h => hA q (Nat.le_trans hS.1 (h.elim (fun ⟨k, e, hk⟩ => by simp at hk) id))
theorem pu_kept {D : va_G} {ws : va_W} {H H1 : Heap} (hP : va_P D classes ws H) (hk : ∀ q : Nat, q < H.size → ¬ va_A [] H.size q → H1[q]? = H[q]?) : va_P D classes ws H1 := hP.kept (fun k x hx => hk x.1 (hP k x hx).lt (fun h => h.elim (fun ⟨k, e, hk⟩ => by simp at hk) (fun h => Nat.lt_irrefl _ (Nat.lt_of_lt_of_le (hP k x hx).lt h))))
theorem st_ne {fs : List Value} {j k : Nat} {x v : Value} (h : fs[j]? = some x) (hne : k ≠ j) : (fs.set k v)[j]? = some x := by rw [List.getElem?_set_ne hne]; exact h
theorem st_lt {fs : List Value} {k : Nat} {x : Value} (h : fs[k]? = some x) : k < fs.length := (List.getElem?_eq_some_iff.mp h).1
theorem st_eq {fs : List Value} {k : Nat} {x v : Value} (h : fs[k]? = some x) : (fs.set k v)[k]? = some v := by rw [List.getElem?_set_self (st_lt h)]
theorem tb_V {a : Cond} {own C : String} {idx n : Nat} {y : MethodName} {b : ByteArray} {r : Option FieldType} (h1 : Cond.methodLink own idx y ∈ lw_gd) (h2 : Cond.instanceMethod y ∈ lw_gd) (h3 : Cond.selects C y y ∈ lw_gd) (h4 : Cond.initialized C ∈ lw_gd) (h5 : Cond.code y b n r ∈ lw_gd) : GoodIn (a :: lw_gd) (wsV own idx C y (.code y b n r :: lw_gd)) := tb_inA (fun w hw => by
  rcases List.mem_append.mp hw with hw | hw
  · simp only [List.mem_cons, List.not_mem_nil, or_false] at hw
    rcases hw with e | e | e | e <;> rw [e] <;> assumption
  · rcases List.mem_cons.mp hw with e | hw
    · rw [e]; exact h5
    · exact hw)
theorem tb_S {a : Cond} {own : String} {idx n : Nat} {y : MethodName} {b : ByteArray} {r : Option FieldType} (h1 : Cond.methodLink own idx y ∈ lw_gd) (h2 : Cond.static y ∈ lw_gd) (h4 : Cond.initialized own ∈ lw_gd) (h5 : Cond.code y b n r ∈ lw_gd) : GoodIn (a :: lw_gd) (wsS own idx y (.code y b n r :: lw_gd)) := tb_inA (fun w hw => by
  rcases List.mem_append.mp hw with hw | hw
  · simp only [List.mem_cons, List.not_mem_nil, or_false] at hw
    rcases hw with e | e | e <;> rw [e] <;> assumption
  · rcases List.mem_cons.mp hw with e | hw
    · rw [e]; exact h5
    · exact hw)
theorem nd_lt {x a b : Int32} (h : ¬ x < a) (hab : b < a) : b < x := by
  simp only [Int32.lt_iff_toInt_lt] at *; omega
theorem nd_le {x a b : Int32} (h : ¬ x < a) (hab : b ≤ a) : b ≤ x := by
  simp only [Int32.lt_iff_toInt_lt, Int32.le_iff_toInt_le] at *; omega
theorem nu_lt {x a b : Int32} (h : ¬ a < x) (hab : a < b) : x < b := by
  simp only [Int32.lt_iff_toInt_lt] at *; omega
theorem nu_le {x a b : Int32} (h : ¬ a < x) (hab : a ≤ b) : x ≤ b := by
  simp only [Int32.lt_iff_toInt_lt, Int32.le_iff_toInt_le] at *; omega
theorem nv_lt {x a b : Int32} (h : ¬ x < a) (hab : b ≤ a) : ¬ x < b := by
  simp only [Int32.lt_iff_toInt_lt, Int32.le_iff_toInt_le] at *; omega
theorem nv_le {x a b : Int32} (h : ¬ x < a) (hab : b < a) : ¬ x ≤ b := by
  simp only [Int32.lt_iff_toInt_lt, Int32.le_iff_toInt_le] at *; omega
theorem ir_in {x a b : Int32} {n : Nat} (h : ¬ x < a) (h2 : ¬ b < x) (ha : 0 ≤ a.toInt) (hb : b.toInt < n) : vp_in x n := by
  rw [vp_in_iff]; simp only [Int32.lt_iff_toInt_lt] at *; omega
theorem ir_16 {x y : Int32} (h1 : ¬ x < 1) (h2 : ¬ 14 < x) (h3 : ¬ y < 1) (h4 : ¬ 14 < y) : vp_in (16 * x + y) 256 := by
  have a1 : ¬ x < 0 := nv_lt h1 (by decide)
  have a2 : ¬ y < 0 := nv_lt h3 (by decide)
  obtain ⟨i, hi, rfl⟩ := nI_of2 (M := 14) (n := 14) (by decide) a1 (Int32.not_lt.mp h2)
  obtain ⟨j, hj, rfl⟩ := nI_of2 (M := 14) (n := 14) (by decide) a2 (Int32.not_lt.mp h4)
  have e : (16 : Int32) * nI i + nI j = nI (16 * i + j) := by
    rw [show (16 : Int32) = nI 16 from rfl, pk_mul, nI_add]
  rw [e]
  exact vp_in_nI (by omega) (by omega)
theorem wn_P {D : va_G} {cl : List vw_C} {H : Heap} : va_P D cl [] H := fun k q h => by simp at h
theorem wn_D {A : Nat → Prop} : va_D A [] := ⟨fun i j p q h => by simp at h, fun k q h => by simp at h⟩
