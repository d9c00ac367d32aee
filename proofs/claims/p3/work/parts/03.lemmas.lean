/-- a field has a value -/
abbrev fx (fs : List Value) (k : Nat) (v : Value) : Prop := fs[k]? = some v
def nw_is : Cond → Bool
  | .fieldLinkNest .. | .methodLinkNest .. => true
  | _ => false
def lw_nest : List Cond := tables_1.filter nw_is
theorem nw_mem {w : Cond} {i : Nat} (h : tables_1[i]? = some w) (hg : nw_is w = true) : w ∈ lw_nest := List.mem_filter.mpr ⟨List.mem_of_getElem? h, hg⟩
/-- the classes, the array classes, and the links between nest mates, as a state has them -/
def KK (dC : Nat → ClassId) (dI : Nat → Nat → Nat) (cI cB cZ cJ : ClassId) (U : State) : Prop := va_K (dC, dI) classes (tys4 cI cB cZ cJ) U ∧ ∀ w ∈ lw_nest, va_Nw w U
theorem KK.same {dC : Nat → ClassId} {dI : Nat → Nat → Nat} {cI cB cZ cJ : ClassId} {u U : State} (h : u.vm = U.vm) (hK : KK dC dI cI cB cZ cJ u) : KK dC dI cI cB cZ cJ U := by
  refine ⟨va_K.moved (h ▸ Vm.Alike.refl u.vm) hK.1, fun w hw => ?_⟩
  have h1 := hK.2 w hw
  have h2 : nw_is w = true := (List.mem_filter.mp hw).2
  cases w <;> first | (cases h2; done) | exact va_Nw.same rfl h h1
theorem KK.warm {dC : Nat → ClassId} {dI : Nat → Nat → Nat} {cI cB cZ cJ : ClassId} {s U : State} (hW : s.WarmedH U.vm) (hK : KK dC dI cI cB cZ cJ s) : KK dC dI cI cB cZ cJ U := by
  refine ⟨va_K.moved hW.alike hK.1, fun w hw => ?_⟩
  have h1 := hK.2 w hw
  have h2 : nw_is w = true := (List.mem_filter.mp hw).2
  cases w <;> first | (cases h2; done) | exact va_Nw.warmF hW h1 | exact va_Nw.warmM hW h1
def PW (dC : Nat → ClassId) (dI : Nat → Nat → Nat) (cI cB cZ cJ : ClassId) (ws : va_W) (sz : Nat) : State → Prop := fun U => U.heap.size = sz ∧ va_P (dC, dI) classes ws U.heap ∧ KK dC dI cI cB cZ cJ U ∧ va_D (fun _ => True) ws
theorem pw_blind {dC : Nat → ClassId} {dI : Nat → Nat → Nat} {cI cB cZ cJ : ClassId} {ws : va_W} {sz : Nat} {av : List Value} : FrameBlind (va_Pc av (PW dC dI cI cB cZ cJ ws sz)) := fun a U g mk q => by
  obtain ⟨q0, q1, qP, qK, qD⟩ := q
  exact ⟨q0, q1, qP, KK.same (u := U) (U := U.calling g mk a) rfl qK, qD⟩
theorem pw_pre {dC : Nat → ClassId} {dI : Nat → Nat → Nat} {cI cB cZ cJ : ClassId} {ws : va_W} {av : List Value} {s : State} {H : Heap} {A : Nat → Prop} (hP : va_P (dC, dI) classes ws H) (hK : KK dC dI cI cB cZ cJ s) (hD : va_D A ws) : ∀ U : State, U.heap = H → s.WarmedH U.vm → va_Pc av (PW dC dI cI cB cZ cJ ws H.size) av.toArray U := fun U hU hW => ⟨rfl, by rw [hU], by rw [hU]; exact hP, hK.warm hW, hD.weaken (fun _ _ _ _ => trivial)⟩
theorem pu_free {A : Nat → Prop} {H0 H : Heap} {locs : List Loc} (hS : va_S A H0 H locs) (hA : ∀ q, H0.size ≤ q → A q) : ∀ q, va_A [] H.size q → A q := fun q h => hA q (Nat.le_trans hS.1 (h.elim (fun ⟨k, e, hk⟩ => by simp at hk) id))
theorem pu_kept {D : va_G} {ws : va_W} {H H1 : Heap} (hP : va_P D classes ws H) (hk : ∀ q : Nat, q < H.size → ¬ va_A [] H.size q → H1[q]? = H[q]?) : va_P D classes ws H1 := hP.kept (fun k x hx => hk x.1 (hP k x hx).lt (fun h => h.elim (fun ⟨k, e, hk⟩ => by simp at hk) (fun h => Nat.lt_irrefl _ (Nat.lt_of_lt_of_le (hP k x hx).lt h))))
theorem st_ne {fs : List Value} {j k : Nat} {x v : Value} (h : fs[j]? = some x) (hne : k ≠ j) : (fs.set k v)[j]? = some x := by rw [List.getElem?_set_ne hne]; exact h
theorem st_lt {fs : List Value} {k : Nat} {x : Value} (h : fs[k]? = some x) : k < fs.length := (List.getElem?_eq_some_iff.mp h).1
theorem st_eq {fs : List Value} {k : Nat} {x v : Value} (h : fs[k]? = some x) : (fs.set k v)[k]? = some v := by rw [List.getElem?_set_self (st_lt h)]
theorem tb_V {a : Cond} {own C : String} {idx n : Nat} {y : MethodName} {b : ByteArray} {r : Option FieldType} (h1 : Cond.methodLink own idx y ∈ lw_gd) (h2 : Cond.instanceMethod y ∈ lw_gd) (h3 : Cond.selects C y y ∈ lw_gd) (h4 : Cond.initialized C ∈ lw_gd) (h5 : Cond.code y b n r ∈ lw_gd) : GoodIn (a :: lw_gd) (wsV own idx C y (.code y b n r :: lw_gd)) := tb_inA (fun w hw => by
  rcases List.mem_append.mp hw with hw | hw
  · simp only [List.mem_cons, List.not_mem_nil, or_false] at hw
    rcases hw with e | e | e | e <;> rw [e] <;> assumption
  · rcases List.mem_cons.mp hw with e | hw
    · rw [e]; exact h5
    · exact hw)
theorem tb_S {a : Cond} {own : String} {idx n : Nat} {y : MethodName} {b : ByteArray} {r : Option FieldType} (h1 : Cond.methodLink own idx y ∈ lw_gd) (h2 : Cond.static y ∈ lw_gd) (h4 : Cond.initialized own ∈ lw_gd) (h5 : Cond.code y b n r ∈ lw_gd) : GoodIn (a :: lw_gd) (wsS own idx y (.code y b n r :: lw_gd)) := tb_inA (fun w hw => by
  rcases List.mem_append.mp hw with hw | hw
  · simp only [List.mem_cons, List.not_mem_nil, or_false] at hw
    rcases hw with e | e | e <;> rw [e] <;> assumption
  · rcases List.mem_cons.mp hw with e | hw
    · rw [e]; exact h5
    · exact hw)
theorem nd_lt {x a b : Int32} (h : ¬ x < a) (hab : b < a) : b < x := by
  simp only [Int32.lt_iff_toInt_lt] at *; omega
theorem nd_le {x a b : Int32} (h : ¬ x < a) (hab : b ≤ a) : b ≤ x := by
  simp only [Int32.lt_iff_toInt_lt, Int32.le_iff_toInt_le] at *; omega
theorem nu_lt {x a b : Int32} (h : ¬ a < x) (hab : a < b) : x < b := by
  simp only [Int32.lt_iff_toInt_lt] at *; omega
theorem nu_le {x a b : Int32} (h : ¬ a < x) (hab : a ≤ b) : x ≤ b := by
  simp only [Int32.lt_iff_toInt_lt, Int32.le_iff_toInt_le] at *; omega
theorem nv_lt {x a b : Int32} (h : ¬ x < a) (hab : b ≤ a) : ¬ x < b := by
  simp only [Int32.lt_iff_toInt_lt, Int32.le_iff_toInt_le] at *; omega
theorem nv_le {x a b : Int32} (h : ¬ x < a) (hab : b < a) : ¬ x ≤ b := by
  simp only [Int32.lt_iff_toInt_lt, Int32.le_iff_toInt_le] at *; omega
theorem ir_in {x a b : Int32} {n : Nat} (h : ¬ x < a) (h2 : ¬ b < x) (ha : 0 ≤ a.toInt) (hb : b.toInt < n) : vp_in x n := by
  rw [vp_in_iff]; simp only [Int32.lt_iff_toInt_lt] at *; omega
theorem ir_16 {x y : Int32} (h1 : ¬ x < 1) (h2 : ¬ 14 < x) (h3 : ¬ y < 1) (h4 : ¬ 14 < y) : vp_in (16 * x + y) 256 := by
  have a1 : ¬ x < 0 := nv_lt h1 (by decide)
  have a2 : ¬ y < 0 := nv_lt h3 (by decide)
  obtain ⟨i, hi, rfl⟩ := nI_of2 (M := 14) (n := 14) (by decide) a1 (Int32.not_lt.mp h2)
  obtain ⟨j, hj, rfl⟩ := nI_of2 (M := 14) (n := 14) (by decide) a2 (Int32.not_lt.mp h4)
  have e : (16 : Int32) * nI i + nI j = nI (16 * i + j) := by
    rw [show (16 : Int32) = nI 16 from rfl, pk_mul, nI_add]
  rw [e]
  exact vp_in_nI (by omega) (by omega)
theorem wn_P {D : va_G} {cl : List vw_C} {H : Heap} : va_P D cl [] H := fun k q h => by simp at h
theorem wn_D {A : Nat → Prop} : va_D A [] := ⟨fun i j p q h => by simp at h, fun k q h => by simp at h⟩
def dk_arm : { f : Nat → Nat → Decoder Instr // ∀ pc, Decoder.instr pc = (Reader.u1 >>= f pc) } := ⟨_, fun _ => rfl⟩
def dk_at (code : ByteArray) (pc : Nat) (l : List UInt8) : Prop := code.data.toList.drop pc = l
theorem dk_next {code : ByteArray} {pc : Nat} {x : UInt8} {r : List UInt8} (h : dk_at code pc (x :: r)) : dk_at code (pc + 1) r := by
  unfold dk_at at *
  rw [← List.drop_drop, h]; rfl
theorem dk_u1 {code : ByteArray} {pc : Nat} {x : UInt8} {r : List UInt8} (h : dk_at code pc (x :: r)) : (Reader.u1 : Decoder Nat) code pc = .ok (x.toNat, pc + 1) := by
  have h0 : code.data.toList[pc]? = some x := by
    have h1 : (code.data.toList.drop pc)[0]? = some x := by rw [h]; rfl
    rw [List.getElem?_drop] at h1; simpa using h1
  have hlt : pc < code.size := by
    exact (List.getElem?_eq_some_iff.mp h0).1
  have hg : code[pc] = x := by
    have h2 := (List.getElem?_eq_some_iff.mp h0).2
    exact h2
  show (if h : pc < code.size then _ else _ : Decoder Nat) code pc = _
  rw [dif_pos hlt]
  show Except.ok (code[pc].toNat, pc + 1) = _
  rw [hg]
theorem dk_u2 {code : ByteArray} {pc : Nat} {x y : UInt8} {r : List UInt8} (h : dk_at code pc (x :: y :: r)) : (Reader.u2 : Decoder Nat) code pc = .ok (x.toNat * 256 + y.toNat, pc + 2) := by
  show Except.bind ((Reader.u1 : Decoder Nat) code pc) _ = _
  rw [dk_u1 h]
  show Except.bind ((Reader.u1 : Decoder Nat) code (pc + 1)) _ = _
  rw [dk_u1 (dk_next h)]
  rfl
theorem dk_s2 {code : ByteArray} {pc : Nat} {x y : UInt8} {r : List UInt8} (h : dk_at code pc (x :: y :: r)) : (Reader.s2 : Decoder Int) code pc = .ok (Reader.signed 16 (x.toNat * 256 + y.toNat), pc + 2) := by
  show Except.bind ((Reader.u2 : Decoder Nat) code pc) _ = _
  rw [dk_u2 h]; rfl
theorem dk_s1 {code : ByteArray} {pc : Nat} {x : UInt8} {r : List UInt8} (h : dk_at code pc (x :: r)) : (Reader.s1 : Decoder Int) code pc = .ok (Reader.signed 8 x.toNat, pc + 1) := by
  show Except.bind ((Reader.u1 : Decoder Nat) code pc) _ = _
  rw [dk_u1 h]; rfl
theorem dk_dec {code : ByteArray} {pc : Nat} {x : UInt8} {r : List UInt8} (h : dk_at code pc (x :: r)) : decode code pc = Except.bind (dk_arm.1 pc x.toNat code (pc + 1)) (fun q => .ok (q.1, q.2 - pc)) := by
  unfold decode Reader.runAt
  rw [dk_arm.2 pc]
  show Except.bind (Except.bind ((Reader.u1 : Decoder Nat) code pc) _) _ = _
  rw [dk_u1 h]
  rfl
/-- an instruction without operands -/
theorem dk_0 {code : ByteArray} {pc : Nat} {x : UInt8} {r : List UInt8} {i : Instr} (h : dk_at code pc (x :: r)) (hi : dk_arm.1 pc x.toNat = Pure.pure i) : decode code pc = .ok (i, 1) := by
  rw [dk_dec h, hi]
  show Except.ok (i, pc + 1 - pc) = _
  rw [Nat.add_sub_cancel_left]
theorem dk_U1 {code : ByteArray} {pc : Nat} {x y : UInt8} {r : List UInt8} {f : Nat → Instr} {i : Instr} (h : dk_at code pc (x :: y :: r)) (hi : dk_arm.1 pc x.toNat = (Reader.u1 >>= fun n => Pure.pure (f n))) (he : f y.toNat = i) : decode code pc = .ok (i, 2) := by
  rw [dk_dec h, hi]
  show Except.bind (Except.bind ((Reader.u1 : Decoder Nat) code (pc + 1)) _) _ = _
  rw [dk_u1 (dk_next h)]
  show Except.ok (f y.toNat, pc + 2 - pc) = _
  rw [Nat.add_sub_cancel_left, he]
theorem dk_S1 {code : ByteArray} {pc : Nat} {x y : UInt8} {r : List UInt8} {f : Int → Instr} {i : Instr} (h : dk_at code pc (x :: y :: r)) (hi : dk_arm.1 pc x.toNat = (Reader.s1 >>= fun n => Pure.pure (f n))) (he : f (Reader.signed 8 y.toNat) = i) : decode code pc = .ok (i, 2) := by
  rw [dk_dec h, hi]
  show Except.bind (Except.bind ((Reader.s1 : Decoder Int) code (pc + 1)) _) _ = _
  rw [dk_s1 (dk_next h)]
  show Except.ok (f _, pc + 2 - pc) = _
  rw [Nat.add_sub_cancel_left, he]
theorem dk_U2 {code : ByteArray} {pc : Nat} {x y z : UInt8} {r : List UInt8} {f : Nat → Instr} {i : Instr} (h : dk_at code pc (x :: y :: z :: r)) (hi : dk_arm.1 pc x.toNat = (Reader.u2 >>= fun n => Pure.pure (f n))) (he : f (y.toNat * 256 + z.toNat) = i) : decode code pc = .ok (i, 3) := by
  rw [dk_dec h, hi]
  show Except.bind (Except.bind ((Reader.u2 : Decoder Nat) code (pc + 1)) _) _ = _
  rw [dk_u2 (dk_next h)]
  show Except.ok (f _, pc + 3 - pc) = _
  rw [Nat.add_sub_cancel_left, he]
theorem dk_S2 {code : ByteArray} {pc : Nat} {x y z : UInt8} {r : List UInt8} {f : Int → Instr} {i : Instr} (h : dk_at code pc (x :: y :: z :: r)) (hi : dk_arm.1 pc x.toNat = (Reader.s2 >>= fun n => Pure.pure (f n))) (he : f (Reader.signed 16 (y.toNat * 256 + z.toNat)) = i) : decode code pc = .ok (i, 3) := by
  rw [dk_dec h, hi]
  show Except.bind (Except.bind ((Reader.s2 : Decoder Int) code (pc + 1)) _) _ = _
  rw [dk_s2 (dk_next h)]
  show Except.ok (f _, pc + 3 - pc) = _
  rw [Nat.add_sub_cancel_left, he]
theorem dk_US {code : ByteArray} {pc : Nat} {x y z : UInt8} {r : List UInt8} {f : Nat → Int → Instr} {i : Instr} (h : dk_at code pc (x :: y :: z :: r)) (hi : dk_arm.1 pc x.toNat = (Reader.u1 >>= fun n => Reader.s1 >>= fun m => Pure.pure (f n m))) (he : f y.toNat (Reader.signed 8 z.toNat) = i) : decode code pc = .ok (i, 3) := by
  rw [dk_dec h, hi]
  show Except.bind (Except.bind ((Reader.u1 : Decoder Nat) code (pc + 1)) _) _ = _
  rw [dk_u1 (dk_next h)]
  show Except.bind (Except.bind ((Reader.s1 : Decoder Int) code (pc + 1 + 1)) _) _ = _
  rw [dk_s1 (dk_next (dk_next h))]
  show Except.ok (f _ _, pc + 3 - pc) = _
  rw [Nat.add_sub_cancel_left, he]
/-- the rest of a code behind n bytes -/
theorem dk_go {code : ByteArray} {pc : Nat} (n : Nat) {l l' : List UInt8} (h : dk_at code pc l) (e : l.drop n = l') : dk_at code (pc + n) l' := by
  unfold dk_at at *
  rw [← List.drop_drop, h, e]
theorem dk_start {code : ByteArray} {l : List UInt8} (h : code.data.toList = l) : dk_at code 0 l := h
theorem dk_N {code : ByteArray} {pc : Nat} {x y : UInt8} {r : List UInt8} {g : Nat → Decoder Instr} {i : Instr} (h : dk_at code pc (x :: y :: r)) (hi : dk_arm.1 pc x.toNat = (Reader.u1 >>= g)) (he : g y.toNat = Pure.pure i) : decode code pc = .ok (i, 2) := by
  rw [dk_dec h, hi]
  show Except.bind (Except.bind ((Reader.u1 : Decoder Nat) code (pc + 1)) _) _ = _
  rw [dk_u1 (dk_next h)]
  show Except.bind (g y.toNat code (pc + 2)) _ = _
  rw [he]
  show Except.ok (i, pc + 2 - pc) = _
  rw [Nat.add_sub_cancel_left]
def dk_na : { g : Nat → Nat → Decoder Instr // ∀ pc, Decoder.newarray pc = (Reader.u1 >>= g pc) } := ⟨_, fun _ => rfl⟩
set_option maxRecDepth 100000 in
theorem dko_0 (pc : Nat) : dk_arm.1 pc (0 : UInt8).toNat = (Pure.pure (Instr.nop) : Decoder Instr) := rfl
set_option maxRecDepth 100000 in
theorem dko_1 (pc : Nat) : dk_arm.1 pc (1 : UInt8).toNat = (Pure.pure (Instr.aconst_null) : Decoder Instr) := rfl
set_option maxRecDepth 100000 in
theorem dko_2 (pc : Nat) : dk_arm.1 pc (2 : UInt8).toNat = (Pure.pure (Instr.iconst (-1)) : Decoder Instr) := rfl
set_option maxRecDepth 100000 in
theorem dko_3 (pc : Nat) : dk_arm.1 pc (3 : UInt8).toNat = (Pure.pure (Instr.iconst 0) : Decoder Instr) := rfl
set_option maxRecDepth 100000 in
theorem dko_4 (pc : Nat) : dk_arm.1 pc (4 : UInt8).toNat = (Pure.pure (Instr.iconst 1) : Decoder Instr) := rfl
set_option maxRecDepth 100000 in
theorem dko_5 (pc : Nat) : dk_arm.1 pc (5 : UInt8).toNat = (Pure.pure (Instr.iconst 2) : Decoder Instr) := rfl
set_option maxRecDepth 100000 in
theorem dko_6 (pc : Nat) : dk_arm.1 pc (6 : UInt8).toNat = (Pure.pure (Instr.iconst 3) : Decoder Instr) := rfl
set_option maxRecDepth 100000 in
theorem dko_7 (pc : Nat) : dk_arm.1 pc (7 : UInt8).toNat = (Pure.pure (Instr.iconst 4) : Decoder Instr) := rfl
set_option maxRecDepth 100000 in
theorem dko_8 (pc : Nat) : dk_arm.1 pc (8 : UInt8).toNat = (Pure.pure (Instr.iconst 5) : Decoder Instr) := rfl
set_option maxRecDepth 100000 in
theorem dko_9 (pc : Nat) : dk_arm.1 pc (9 : UInt8).toNat = (Pure.pure (Instr.lconst 0) : Decoder Instr) := rfl
set_option maxRecDepth 100000 in
theorem dko_10 (pc : Nat) : dk_arm.1 pc (10 : UInt8).toNat = (Pure.pure (Instr.lconst 1) : Decoder Instr) := rfl
set_option maxRecDepth 100000 in
theorem dko_11 (pc : Nat) : dk_arm.1 pc (11 : UInt8).toNat = (Pure.pure (Instr.fconst 0) : Decoder Instr) := rfl
set_option maxRecDepth 100000 in
theorem dko_12 (pc : Nat) : dk_arm.1 pc (12 : UInt8).toNat = (Pure.pure (Instr.fconst 1) : Decoder Instr) := rfl
set_option maxRecDepth 100000 in
theorem dko_13 (pc : Nat) : dk_arm.1 pc (13 : UInt8).toNat = (Pure.pure (Instr.fconst 2) : Decoder Instr) := rfl
set_option maxRecDepth 100000 in
theorem dko_14 (pc : Nat) : dk_arm.1 pc (14 : UInt8).toNat = (Pure.pure (Instr.dconst 0) : Decoder Instr) := rfl
set_option maxRecDepth 100000 in
theorem dko_15 (pc : Nat) : dk_arm.1 pc (15 : UInt8).toNat = (Pure.pure (Instr.dconst 1) : Decoder Instr) := rfl
set_option maxRecDepth 100000 in
theorem dko_16 (pc : Nat) : dk_arm.1 pc (16 : UInt8).toNat = (Reader.s1 >>= fun n => Pure.pure (Instr.bipush n) : Decoder Instr) := rfl
set_option maxRecDepth 100000 in
theorem dko_17 (pc : Nat) : dk_arm.1 pc (17 : UInt8).toNat = (Reader.s2 >>= fun n => Pure.pure (Instr.sipush n) : Decoder Instr) := rfl
set_option maxRecDepth 100000 in
theorem dko_18 (pc : Nat) : dk_arm.1 pc (18 : UInt8).toNat = (Reader.u1 >>= fun n => Pure.pure (Instr.ldc n) : Decoder Instr) := rfl
set_option maxRecDepth 100000 in
theorem dko_19 (pc : Nat) : dk_arm.1 pc (19 : UInt8).toNat = (Reader.u2 >>= fun n => Pure.pure (Instr.ldc_w n) : Decoder Instr) := rfl
set_option maxRecDepth 100000 in
theorem dko_20 (pc : Nat) : dk_arm.1 pc (20 : UInt8).toNat = (Reader.u2 >>= fun n => Pure.pure (Instr.ldc2_w n) : Decoder Instr) := rfl
set_option maxRecDepth 100000 in
theorem dko_21 (pc : Nat) : dk_arm.1 pc (21 : UInt8).toNat = (Reader.u1 >>= fun n => Pure.pure (Instr.iload n) : Decoder Instr) := rfl
set_option maxRecDepth 100000 in
theorem dko_22 (pc : Nat) : dk_arm.1 pc (22 : UInt8).toNat = (Reader.u1 >>= fun n => Pure.pure (Instr.lload n) : Decoder Instr) := rfl
set_option maxRecDepth 100000 in
theorem dko_23 (pc : Nat) : dk_arm.1 pc (23 : UInt8).toNat = (Reader.u1 >>= fun n => Pure.pure (Instr.fload n) : Decoder Instr) := rfl
set_option maxRecDepth 100000 in
theorem dko_24 (pc : Nat) : dk_arm.1 pc (24 : UInt8).toNat = (Reader.u1 >>= fun n => Pure.pure (Instr.dload n) : Decoder Instr) := rfl
set_option maxRecDepth 100000 in
theorem dko_25 (pc : Nat) : dk_arm.1 pc (25 : UInt8).toNat = (Reader.u1 >>= fun n => Pure.pure (Instr.aload n) : Decoder Instr) := rfl
set_option maxRecDepth 100000 in
theorem dko_26 (pc : Nat) : dk_arm.1 pc (26 : UInt8).toNat = (Pure.pure (Instr.iload_n 0) : Decoder Instr) := rfl
set_option maxRecDepth 100000 in
theorem dko_27 (pc : Nat) : dk_arm.1 pc (27 : UInt8).toNat = (Pure.pure (Instr.iload_n 1) : Decoder Instr) := rfl
set_option maxRecDepth 100000 in
theorem dko_28 (pc : Nat) : dk_arm.1 pc (28 : UInt8).toNat = (Pure.pure (Instr.iload_n 2) : Decoder Instr) := rfl
set_option maxRecDepth 100000 in
theorem dko_29 (pc : Nat) : dk_arm.1 pc (29 : UInt8).toNat = (Pure.pure (Instr.iload_n 3) : Decoder Instr) := rfl
set_option maxRecDepth 100000 in
theorem dko_30 (pc : Nat) : dk_arm.1 pc (30 : UInt8).toNat = (Pure.pure (Instr.lload_n 0) : Decoder Instr) := rfl
set_option maxRecDepth 100000 in
theorem dko_31 (pc : Nat) : dk_arm.1 pc (31 : UInt8).toNat = (Pure.pure (Instr.lload_n 1) : Decoder Instr) := rfl
set_option maxRecDepth 100000 in
theorem dko_32 (pc : Nat) : dk_arm.1 pc (32 : UInt8).toNat = (Pure.pure (Instr.lload_n 2) : Decoder Instr) := rfl
set_option maxRecDepth 100000 in
theorem dko_33 (pc : Nat) : dk_arm.1 pc (33 : UInt8).toNat = (Pure.pure (Instr.lload_n 3) : Decoder Instr) := rfl
set_option maxRecDepth 100000 in
theorem dko_34 (pc : Nat) : dk_arm.1 pc (34 : UInt8).toNat = (Pure.pure (Instr.fload_n 0) : Decoder Instr) := rfl
set_option maxRecDepth 100000 in
theorem dko_35 (pc : Nat) : dk_arm.1 pc (35 : UInt8).toNat = (Pure.pure (Instr.fload_n 1) : Decoder Instr) := rfl
set_option maxRecDepth 100000 in
theorem dko_36 (pc : Nat) : dk_arm.1 pc (36 : UInt8).toNat = (Pure.pure (Instr.fload_n 2) : Decoder Instr) := rfl
set_option maxRecDepth 100000 in
theorem dko_37 (pc : Nat) : dk_arm.1 pc (37 : UInt8).toNat = (Pure.pure (Instr.fload_n 3) : Decoder Instr) := rfl
set_option maxRecDepth 100000 in
theorem dko_38 (pc : Nat) : dk_arm.1 pc (38 : UInt8).toNat = (Pure.pure (Instr.dload_n 0) : Decoder Instr) := rfl
set_option maxRecDepth 100000 in
theorem dko_39 (pc : Nat) : dk_arm.1 pc (39 : UInt8).toNat = (Pure.pure (Instr.dload_n 1) : Decoder Instr) := rfl
set_option maxRecDepth 100000 in
theorem dko_40 (pc : Nat) : dk_arm.1 pc (40 : UInt8).toNat = (Pure.pure (Instr.dload_n 2) : Decoder Instr) := rfl
set_option maxRecDepth 100000 in
theorem dko_41 (pc : Nat) : dk_arm.1 pc (41 : UInt8).toNat = (Pure.pure (Instr.dload_n 3) : Decoder Instr) := rfl
set_option maxRecDepth 100000 in
theorem dko_42 (pc : Nat) : dk_arm.1 pc (42 : UInt8).toNat = (Pure.pure (Instr.aload_n 0) : Decoder Instr) := rfl
set_option maxRecDepth 100000 in
theorem dko_43 (pc : Nat) : dk_arm.1 pc (43 : UInt8).toNat = (Pure.pure (Instr.aload_n 1) : Decoder Instr) := rfl
set_option maxRecDepth 100000 in
theorem dko_44 (pc : Nat) : dk_arm.1 pc (44 : UInt8).toNat = (Pure.pure (Instr.aload_n 2) : Decoder Instr) := rfl
set_option maxRecDepth 100000 in
theorem dko_45 (pc : Nat) : dk_arm.1 pc (45 : UInt8).toNat = (Pure.pure (Instr.aload_n 3) : Decoder Instr) := rfl
set_option maxRecDepth 100000 in
theorem dko_46 (pc : Nat) : dk_arm.1 pc (46 : UInt8).toNat = (Pure.pure (Instr.iaload) : Decoder Instr) := rfl
set_option maxRecDepth 100000 in
theorem dko_47 (pc : Nat) : dk_arm.1 pc (47 : UInt8).toNat = (Pure.pure (Instr.laload) : Decoder Instr) := rfl
set_option maxRecDepth 100000 in
theorem dko_48 (pc : Nat) : dk_arm.1 pc (48 : UInt8).toNat = (Pure.pure (Instr.faload) : Decoder Instr) := rfl
set_option maxRecDepth 100000 in
theorem dko_49 (pc : Nat) : dk_arm.1 pc (49 : UInt8).toNat = (Pure.pure (Instr.daload) : Decoder Instr) := rfl
set_option maxRecDepth 100000 in
theorem dko_50 (pc : Nat) : dk_arm.1 pc (50 : UInt8).toNat = (Pure.pure (Instr.aaload) : Decoder Instr) := rfl
set_option maxRecDepth 100000 in
theorem dko_51 (pc : Nat) : dk_arm.1 pc (51 : UInt8).toNat = (Pure.pure (Instr.baload) : Decoder Instr) := rfl
set_option maxRecDepth 100000 in
theorem dko_52 (pc : Nat) : dk_arm.1 pc (52 : UInt8).toNat = (Pure.pure (Instr.caload) : Decoder Instr) := rfl
set_option maxRecDepth 100000 in
theorem dko_53 (pc : Nat) : dk_arm.1 pc (53 : UInt8).toNat = (Pure.pure (Instr.saload) : Decoder Instr) := rfl
set_option maxRecDepth 100000 in
theorem dko_54 (pc : Nat) : dk_arm.1 pc (54 : UInt8).toNat = (Reader.u1 >>= fun n => Pure.pure (Instr.istore n) : Decoder Instr) := rfl
set_option maxRecDepth 100000 in
theorem dko_55 (pc : Nat) : dk_arm.1 pc (55 : UInt8).toNat = (Reader.u1 >>= fun n => Pure.pure (Instr.lstore n) : Decoder Instr) := rfl
set_option maxRecDepth 100000 in
theorem dko_56 (pc : Nat) : dk_arm.1 pc (56 : UInt8).toNat = (Reader.u1 >>= fun n => Pure.pure (Instr.fstore n) : Decoder Instr) := rfl
set_option maxRecDepth 100000 in
theorem dko_57 (pc : Nat) : dk_arm.1 pc (57 : UInt8).toNat = (Reader.u1 >>= fun n => Pure.pure (Instr.dstore n) : Decoder Instr) := rfl
set_option maxRecDepth 100000 in
theorem dko_58 (pc : Nat) : dk_arm.1 pc (58 : UInt8).toNat = (Reader.u1 >>= fun n => Pure.pure (Instr.astore n) : Decoder Instr) := rfl
set_option maxRecDepth 100000 in
theorem dko_59 (pc : Nat) : dk_arm.1 pc (59 : UInt8).toNat = (Pure.pure (Instr.istore_n 0) : Decoder Instr) := rfl
set_option maxRecDepth 100000 in
theorem dko_60 (pc : Nat) : dk_arm.1 pc (60 : UInt8).toNat = (Pure.pure (Instr.istore_n 1) : Decoder Instr) := rfl
set_option maxRecDepth 100000 in
theorem dko_61 (pc : Nat) : dk_arm.1 pc (61 : UInt8).toNat = (Pure.pure (Instr.istore_n 2) : Decoder Instr) := rfl
set_option maxRecDepth 100000 in
theorem dko_62 (pc : Nat) : dk_arm.1 pc (62 : UInt8).toNat = (Pure.pure (Instr.istore_n 3) : Decoder Instr) := rfl
set_option maxRecDepth 100000 in
theorem dko_63 (pc : Nat) : dk_arm.1 pc (63 : UInt8).toNat = (Pure.pure (Instr.lstore_n 0) : Decoder Instr) := rfl
set_option maxRecDepth 100000 in
theorem dko_64 (pc : Nat) : dk_arm.1 pc (64 : UInt8).toNat = (Pure.pure (Instr.lstore_n 1) : Decoder Instr) := rfl
set_option maxRecDepth 100000 in
theorem dko_65 (pc : Nat) : dk_arm.1 pc (65 : UInt8).toNat = (Pure.pure (Instr.lstore_n 2) : Decoder Instr) := rfl
set_option maxRecDepth 100000 in
theorem dko_66 (pc : Nat) : dk_arm.1 pc (66 : UInt8).toNat = (Pure.pure (Instr.lstore_n 3) : Decoder Instr) := rfl
set_option maxRecDepth 100000 in
theorem dko_67 (pc : Nat) : dk_arm.1 pc (67 : UInt8).toNat = (Pure.pure (Instr.fstore_n 0) : Decoder Instr) := rfl
set_option maxRecDepth 100000 in
theorem dko_68 (pc : Nat) : dk_arm.1 pc (68 : UInt8).toNat = (Pure.pure (Instr.fstore_n 1) : Decoder Instr) := rfl
set_option maxRecDepth 100000 in
theorem dko_69 (pc : Nat) : dk_arm.1 pc (69 : UInt8).toNat = (Pure.pure (Instr.fstore_n 2) : Decoder Instr) := rfl
set_option maxRecDepth 100000 in
theorem dko_70 (pc : Nat) : dk_arm.1 pc (70 : UInt8).toNat = (Pure.pure (Instr.fstore_n 3) : Decoder Instr) := rfl
set_option maxRecDepth 100000 in
theorem dko_71 (pc : Nat) : dk_arm.1 pc (71 : UInt8).toNat = (Pure.pure (Instr.dstore_n 0) : Decoder Instr) := rfl
set_option maxRecDepth 100000 in
theorem dko_72 (pc : Nat) : dk_arm.1 pc (72 : UInt8).toNat = (Pure.pure (Instr.dstore_n 1) : Decoder Instr) := rfl
set_option maxRecDepth 100000 in
theorem dko_73 (pc : Nat) : dk_arm.1 pc (73 : UInt8).toNat = (Pure.pure (Instr.dstore_n 2) : Decoder Instr) := rfl
set_option maxRecDepth 100000 in
theorem dko_74 (pc : Nat) : dk_arm.1 pc (74 : UInt8).toNat = (Pure.pure (Instr.dstore_n 3) : Decoder Instr) := rfl
set_option maxRecDepth 100000 in
theorem dko_75 (pc : Nat) : dk_arm.1 pc (75 : UInt8).toNat = (Pure.pure (Instr.astore_n 0) : Decoder Instr) := rfl
set_option maxRecDepth 100000 in
theorem dko_76 (pc : Nat) : dk_arm.1 pc (76 : UInt8).toNat = (Pure.pure (Instr.astore_n 1) : Decoder Instr) := rfl
set_option maxRecDepth 100000 in
theorem dko_77 (pc : Nat) : dk_arm.1 pc (77 : UInt8).toNat = (Pure.pure (Instr.astore_n 2) : Decoder Instr) := rfl
set_option maxRecDepth 100000 in
theorem dko_78 (pc : Nat) : dk_arm.1 pc (78 : UInt8).toNat = (Pure.pure (Instr.astore_n 3) : Decoder Instr) := rfl
set_option maxRecDepth 100000 in
theorem dko_79 (pc : Nat) : dk_arm.1 pc (79 : UInt8).toNat = (Pure.pure (Instr.iastore) : Decoder Instr) := rfl
set_option maxRecDepth 100000 in
theorem dko_80 (pc : Nat) : dk_arm.1 pc (80 : UInt8).toNat = (Pure.pure (Instr.lastore) : Decoder Instr) := rfl
set_option maxRecDepth 100000 in
theorem dko_81 (pc : Nat) : dk_arm.1 pc (81 : UInt8).toNat = (Pure.pure (Instr.fastore) : Decoder Instr) := rfl
set_option maxRecDepth 100000 in
theorem dko_82 (pc : Nat) : dk_arm.1 pc (82 : UInt8).toNat = (Pure.pure (Instr.dastore) : Decoder Instr) := rfl
set_option maxRecDepth 100000 in
theorem dko_83 (pc : Nat) : dk_arm.1 pc (83 : UInt8).toNat = (Pure.pure (Instr.aastore) : Decoder Instr) := rfl
set_option maxRecDepth 100000 in
theorem dko_84 (pc : Nat) : dk_arm.1 pc (84 : UInt8).toNat = (Pure.pure (Instr.bastore) : Decoder Instr) := rfl
set_option maxRecDepth 100000 in
theorem dko_85 (pc : Nat) : dk_arm.1 pc (85 : UInt8).toNat = (Pure.pure (Instr.castore) : Decoder Instr) := rfl
set_option maxRecDepth 100000 in
theorem dko_86 (pc : Nat) : dk_arm.1 pc (86 : UInt8).toNat = (Pure.pure (Instr.sastore) : Decoder Instr) := rfl
set_option maxRecDepth 100000 in
theorem dko_87 (pc : Nat) : dk_arm.1 pc (87 : UInt8).toNat = (Pure.pure (Instr.pop) : Decoder Instr) := rfl
set_option maxRecDepth 100000 in
theorem dko_88 (pc : Nat) : dk_arm.1 pc (88 : UInt8).toNat = (Pure.pure (Instr.pop2) : Decoder Instr) := rfl
set_option maxRecDepth 100000 in
theorem dko_89 (pc : Nat) : dk_arm.1 pc (89 : UInt8).toNat = (Pure.pure (Instr.dup) : Decoder Instr) := rfl
set_option maxRecDepth 100000 in
theorem dko_90 (pc : Nat) : dk_arm.1 pc (90 : UInt8).toNat = (Pure.pure (Instr.dup_x1) : Decoder Instr) := rfl
set_option maxRecDepth 100000 in
theorem dko_91 (pc : Nat) : dk_arm.1 pc (91 : UInt8).toNat = (Pure.pure (Instr.dup_x2) : Decoder Instr) := rfl
set_option maxRecDepth 100000 in
theorem dko_92 (pc : Nat) : dk_arm.1 pc (92 : UInt8).toNat = (Pure.pure (Instr.dup2) : Decoder Instr) := rfl
set_option maxRecDepth 100000 in
theorem dko_93 (pc : Nat) : dk_arm.1 pc (93 : UInt8).toNat = (Pure.pure (Instr.dup2_x1) : Decoder Instr) := rfl
set_option maxRecDepth 100000 in
theorem dko_94 (pc : Nat) : dk_arm.1 pc (94 : UInt8).toNat = (Pure.pure (Instr.dup2_x2) : Decoder Instr) := rfl
set_option maxRecDepth 100000 in
theorem dko_95 (pc : Nat) : dk_arm.1 pc (95 : UInt8).toNat = (Pure.pure (Instr.swap) : Decoder Instr) := rfl
set_option maxRecDepth 100000 in
theorem dko_96 (pc : Nat) : dk_arm.1 pc (96 : UInt8).toNat = (Pure.pure (Instr.iadd) : Decoder Instr) := rfl
set_option maxRecDepth 100000 in
theorem dko_97 (pc : Nat) : dk_arm.1 pc (97 : UInt8).toNat = (Pure.pure (Instr.ladd) : Decoder Instr) := rfl
set_option maxRecDepth 100000 in
theorem dko_98 (pc : Nat) : dk_arm.1 pc (98 : UInt8).toNat = (Pure.pure (Instr.fadd) : Decoder Instr) := rfl
set_option maxRecDepth 100000 in
theorem dko_99 (pc : Nat) : dk_arm.1 pc (99 : UInt8).toNat = (Pure.pure (Instr.dadd) : Decoder Instr) := rfl
set_option maxRecDepth 100000 in
theorem dko_100 (pc : Nat) : dk_arm.1 pc (100 : UInt8).toNat = (Pure.pure (Instr.isub) : Decoder Instr) := rfl
set_option maxRecDepth 100000 in
theorem dko_101 (pc : Nat) : dk_arm.1 pc (101 : UInt8).toNat = (Pure.pure (Instr.lsub) : Decoder Instr) := rfl
set_option maxRecDepth 100000 in
theorem dko_102 (pc : Nat) : dk_arm.1 pc (102 : UInt8).toNat = (Pure.pure (Instr.fsub) : Decoder Instr) := rfl
set_option maxRecDepth 100000 in
theorem dko_103 (pc : Nat) : dk_arm.1 pc (103 : UInt8).toNat = (Pure.pure (Instr.dsub) : Decoder Instr) := rfl
set_option maxRecDepth 100000 in
theorem dko_104 (pc : Nat) : dk_arm.1 pc (104 : UInt8).toNat = (Pure.pure (Instr.imul) : Decoder Instr) := rfl
set_option maxRecDepth 100000 in
theorem dko_105 (pc : Nat) : dk_arm.1 pc (105 : UInt8).toNat = (Pure.pure (Instr.lmul) : Decoder Instr) := rfl
set_option maxRecDepth 100000 in
theorem dko_106 (pc : Nat) : dk_arm.1 pc (106 : UInt8).toNat = (Pure.pure (Instr.fmul) : Decoder Instr) := rfl
set_option maxRecDepth 100000 in
theorem dko_107 (pc : Nat) : dk_arm.1 pc (107 : UInt8).toNat = (Pure.pure (Instr.dmul) : Decoder Instr) := rfl
set_option maxRecDepth 100000 in
theorem dko_108 (pc : Nat) : dk_arm.1 pc (108 : UInt8).toNat = (Pure.pure (Instr.idiv) : Decoder Instr) := rfl
set_option maxRecDepth 100000 in
theorem dko_109 (pc : Nat) : dk_arm.1 pc (109 : UInt8).toNat = (Pure.pure (Instr.ldiv) : Decoder Instr) := rfl
set_option maxRecDepth 100000 in
theorem dko_110 (pc : Nat) : dk_arm.1 pc (110 : UInt8).toNat = (Pure.pure (Instr.fdiv) : Decoder Instr) := rfl
set_option maxRecDepth 100000 in
theorem dko_111 (pc : Nat) : dk_arm.1 pc (111 : UInt8).toNat = (Pure.pure (Instr.ddiv) : Decoder Instr) := rfl
set_option maxRecDepth 100000 in
theorem dko_112 (pc : Nat) : dk_arm.1 pc (112 : UInt8).toNat = (Pure.pure (Instr.irem) : Decoder Instr) := rfl
set_option maxRecDepth 100000 in
theorem dko_113 (pc : Nat) : dk_arm.1 pc (113 : UInt8).toNat = (Pure.pure (Instr.lrem) : Decoder Instr) := rfl
set_option maxRecDepth 100000 in
theorem dko_114 (pc : Nat) : dk_arm.1 pc (114 : UInt8).toNat = (Pure.pure (Instr.frem) : Decoder Instr) := rfl
set_option maxRecDepth 100000 in
theorem dko_115 (pc : Nat) : dk_arm.1 pc (115 : UInt8).toNat = (Pure.pure (Instr.drem) : Decoder Instr) := rfl
set_option maxRecDepth 100000 in
theorem dko_116 (pc : Nat) : dk_arm.1 pc (116 : UInt8).toNat = (Pure.pure (Instr.ineg) : Decoder Instr) := rfl
set_option maxRecDepth 100000 in
theorem dko_117 (pc : Nat) : dk_arm.1 pc (117 : UInt8).toNat = (Pure.pure (Instr.lneg) : Decoder Instr) := rfl
set_option maxRecDepth 100000 in
theorem dko_118 (pc : Nat) : dk_arm.1 pc (118 : UInt8).toNat = (Pure.pure (Instr.fneg) : Decoder Instr) := rfl
set_option maxRecDepth 100000 in
theorem dko_119 (pc : Nat) : dk_arm.1 pc (119 : UInt8).toNat = (Pure.pure (Instr.dneg) : Decoder Instr) := rfl
set_option maxRecDepth 100000 in
theorem dko_120 (pc : Nat) : dk_arm.1 pc (120 : UInt8).toNat = (Pure.pure (Instr.ishl) : Decoder Instr) := rfl
set_option maxRecDepth 100000 in
theorem dko_121 (pc : Nat) : dk_arm.1 pc (121 : UInt8).toNat = (Pure.pure (Instr.lshl) : Decoder Instr) := rfl
set_option maxRecDepth 100000 in
theorem dko_122 (pc : Nat) : dk_arm.1 pc (122 : UInt8).toNat = (Pure.pure (Instr.ishr) : Decoder Instr) := rfl
set_option maxRecDepth 100000 in
theorem dko_123 (pc : Nat) : dk_arm.1 pc (123 : UInt8).toNat = (Pure.pure (Instr.lshr) : Decoder Instr) := rfl
set_option maxRecDepth 100000 in
theorem dko_124 (pc : Nat) : dk_arm.1 pc (124 : UInt8).toNat = (Pure.pure (Instr.iushr) : Decoder Instr) := rfl
set_option maxRecDepth 100000 in
theorem dko_125 (pc : Nat) : dk_arm.1 pc (125 : UInt8).toNat = (Pure.pure (Instr.lushr) : Decoder Instr) := rfl
set_option maxRecDepth 100000 in
theorem dko_126 (pc : Nat) : dk_arm.1 pc (126 : UInt8).toNat = (Pure.pure (Instr.iand) : Decoder Instr) := rfl
set_option maxRecDepth 100000 in
theorem dko_127 (pc : Nat) : dk_arm.1 pc (127 : UInt8).toNat = (Pure.pure (Instr.land) : Decoder Instr) := rfl
set_option maxRecDepth 100000 in
theorem dko_128 (pc : Nat) : dk_arm.1 pc (128 : UInt8).toNat = (Pure.pure (Instr.ior) : Decoder Instr) := rfl
set_option maxRecDepth 100000 in
theorem dko_129 (pc : Nat) : dk_arm.1 pc (129 : UInt8).toNat = (Pure.pure (Instr.lor) : Decoder Instr) := rfl
set_option maxRecDepth 100000 in
theorem dko_130 (pc : Nat) : dk_arm.1 pc (130 : UInt8).toNat = (Pure.pure (Instr.ixor) : Decoder Instr) := rfl
set_option maxRecDepth 100000 in
theorem dko_131 (pc : Nat) : dk_arm.1 pc (131 : UInt8).toNat = (Pure.pure (Instr.lxor) : Decoder Instr) := rfl
set_option maxRecDepth 100000 in
theorem dko_132 (pc : Nat) : dk_arm.1 pc (132 : UInt8).toNat = (Reader.u1 >>= fun n => Reader.s1 >>= fun m => Pure.pure (Instr.iinc n m) : Decoder Instr) := rfl
set_option maxRecDepth 100000 in
theorem dko_133 (pc : Nat) : dk_arm.1 pc (133 : UInt8).toNat = (Pure.pure (Instr.i2l) : Decoder Instr) := rfl
set_option maxRecDepth 100000 in
theorem dko_134 (pc : Nat) : dk_arm.1 pc (134 : UInt8).toNat = (Pure.pure (Instr.i2f) : Decoder Instr) := rfl
set_option maxRecDepth 100000 in
theorem dko_135 (pc : Nat) : dk_arm.1 pc (135 : UInt8).toNat = (Pure.pure (Instr.i2d) : Decoder Instr) := rfl
set_option maxRecDepth 100000 in
theorem dko_136 (pc : Nat) : dk_arm.1 pc (136 : UInt8).toNat = (Pure.pure (Instr.l2i) : Decoder Instr) := rfl
set_option maxRecDepth 100000 in
theorem dko_137 (pc : Nat) : dk_arm.1 pc (137 : UInt8).toNat = (Pure.pure (Instr.l2f) : Decoder Instr) := rfl
set_option maxRecDepth 100000 in
theorem dko_138 (pc : Nat) : dk_arm.1 pc (138 : UInt8).toNat = (Pure.pure (Instr.l2d) : Decoder Instr) := rfl
set_option maxRecDepth 100000 in
theorem dko_139 (pc : Nat) : dk_arm.1 pc (139 : UInt8).toNat = (Pure.pure (Instr.f2i) : Decoder Instr) := rfl
set_option maxRecDepth 100000 in
theorem dko_140 (pc : Nat) : dk_arm.1 pc (140 : UInt8).toNat = (Pure.pure (Instr.f2l) : Decoder Instr) := rfl
set_option maxRecDepth 100000 in
theorem dko_141 (pc : Nat) : dk_arm.1 pc (141 : UInt8).toNat = (Pure.pure (Instr.f2d) : Decoder Instr) := rfl
set_option maxRecDepth 100000 in
theorem dko_142 (pc : Nat) : dk_arm.1 pc (142 : UInt8).toNat = (Pure.pure (Instr.d2i) : Decoder Instr) := rfl
set_option maxRecDepth 100000 in
theorem dko_143 (pc : Nat) : dk_arm.1 pc (143 : UInt8).toNat = (Pure.pure (Instr.d2l) : Decoder Instr) := rfl
set_option maxRecDepth 100000 in
theorem dko_144 (pc : Nat) : dk_arm.1 pc (144 : UInt8).toNat = (Pure.pure (Instr.d2f) : Decoder Instr) := rfl
set_option maxRecDepth 100000 in
theorem dko_145 (pc : Nat) : dk_arm.1 pc (145 : UInt8).toNat = (Pure.pure (Instr.i2b) : Decoder Instr) := rfl
set_option maxRecDepth 100000 in
theorem dko_146 (pc : Nat) : dk_arm.1 pc (146 : UInt8).toNat = (Pure.pure (Instr.i2c) : Decoder Instr) := rfl
set_option maxRecDepth 100000 in
theorem dko_147 (pc : Nat) : dk_arm.1 pc (147 : UInt8).toNat = (Pure.pure (Instr.i2s) : Decoder Instr) := rfl
set_option maxRecDepth 100000 in
theorem dko_148 (pc : Nat) : dk_arm.1 pc (148 : UInt8).toNat = (Pure.pure (Instr.lcmp) : Decoder Instr) := rfl
set_option maxRecDepth 100000 in
theorem dko_149 (pc : Nat) : dk_arm.1 pc (149 : UInt8).toNat = (Pure.pure (Instr.fcmp .l) : Decoder Instr) := rfl
set_option maxRecDepth 100000 in
theorem dko_150 (pc : Nat) : dk_arm.1 pc (150 : UInt8).toNat = (Pure.pure (Instr.fcmp .g) : Decoder Instr) := rfl
set_option maxRecDepth 100000 in
theorem dko_151 (pc : Nat) : dk_arm.1 pc (151 : UInt8).toNat = (Pure.pure (Instr.dcmp .l) : Decoder Instr) := rfl
set_option maxRecDepth 100000 in
theorem dko_152 (pc : Nat) : dk_arm.1 pc (152 : UInt8).toNat = (Pure.pure (Instr.dcmp .g) : Decoder Instr) := rfl
set_option maxRecDepth 100000 in
theorem dko_153 (pc : Nat) : dk_arm.1 pc (153 : UInt8).toNat = (Reader.s2 >>= fun n => Pure.pure (Instr.ifCond .eq n) : Decoder Instr) := rfl
set_option maxRecDepth 100000 in
theorem dko_154 (pc : Nat) : dk_arm.1 pc (154 : UInt8).toNat = (Reader.s2 >>= fun n => Pure.pure (Instr.ifCond .ne n) : Decoder Instr) := rfl
set_option maxRecDepth 100000 in
theorem dko_155 (pc : Nat) : dk_arm.1 pc (155 : UInt8).toNat = (Reader.s2 >>= fun n => Pure.pure (Instr.ifCond .lt n) : Decoder Instr) := rfl
set_option maxRecDepth 100000 in
theorem dko_156 (pc : Nat) : dk_arm.1 pc (156 : UInt8).toNat = (Reader.s2 >>= fun n => Pure.pure (Instr.ifCond .ge n) : Decoder Instr) := rfl
set_option maxRecDepth 100000 in
theorem dko_157 (pc : Nat) : dk_arm.1 pc (157 : UInt8).toNat = (Reader.s2 >>= fun n => Pure.pure (Instr.ifCond .gt n) : Decoder Instr) := rfl
set_option maxRecDepth 100000 in
theorem dko_158 (pc : Nat) : dk_arm.1 pc (158 : UInt8).toNat = (Reader.s2 >>= fun n => Pure.pure (Instr.ifCond .le n) : Decoder Instr) := rfl
set_option maxRecDepth 100000 in
theorem dko_159 (pc : Nat) : dk_arm.1 pc (159 : UInt8).toNat = (Reader.s2 >>= fun n => Pure.pure (Instr.if_icmp .eq n) : Decoder Instr) := rfl
set_option maxRecDepth 100000 in
theorem dko_160 (pc : Nat) : dk_arm.1 pc (160 : UInt8).toNat = (Reader.s2 >>= fun n => Pure.pure (Instr.if_icmp .ne n) : Decoder Instr) := rfl
set_option maxRecDepth 100000 in
theorem dko_161 (pc : Nat) : dk_arm.1 pc (161 : UInt8).toNat = (Reader.s2 >>= fun n => Pure.pure (Instr.if_icmp .lt n) : Decoder Instr) := rfl
set_option maxRecDepth 100000 in
theorem dko_162 (pc : Nat) : dk_arm.1 pc (162 : UInt8).toNat = (Reader.s2 >>= fun n => Pure.pure (Instr.if_icmp .ge n) : Decoder Instr) := rfl
set_option maxRecDepth 100000 in
theorem dko_163 (pc : Nat) : dk_arm.1 pc (163 : UInt8).toNat = (Reader.s2 >>= fun n => Pure.pure (Instr.if_icmp .gt n) : Decoder Instr) := rfl
set_option maxRecDepth 100000 in
theorem dko_164 (pc : Nat) : dk_arm.1 pc (164 : UInt8).toNat = (Reader.s2 >>= fun n => Pure.pure (Instr.if_icmp .le n) : Decoder Instr) := rfl
set_option maxRecDepth 100000 in
theorem dko_165 (pc : Nat) : dk_arm.1 pc (165 : UInt8).toNat = (Reader.s2 >>= fun n => Pure.pure (Instr.if_acmp .eq n) : Decoder Instr) := rfl
set_option maxRecDepth 100000 in
theorem dko_166 (pc : Nat) : dk_arm.1 pc (166 : UInt8).toNat = (Reader.s2 >>= fun n => Pure.pure (Instr.if_acmp .ne n) : Decoder Instr) := rfl
set_option maxRecDepth 100000 in
theorem dko_167 (pc : Nat) : dk_arm.1 pc (167 : UInt8).toNat = (Reader.s2 >>= fun n => Pure.pure (Instr.goto n) : Decoder Instr) := rfl
set_option maxRecDepth 100000 in
theorem dko_168 (pc : Nat) : dk_arm.1 pc (168 : UInt8).toNat = (Reader.s2 >>= fun n => Pure.pure (Instr.jsr n) : Decoder Instr) := rfl
set_option maxRecDepth 100000 in
theorem dko_169 (pc : Nat) : dk_arm.1 pc (169 : UInt8).toNat = (Reader.u1 >>= fun n => Pure.pure (Instr.ret n) : Decoder Instr) := rfl
set_option maxRecDepth 100000 in
theorem dko_172 (pc : Nat) : dk_arm.1 pc (172 : UInt8).toNat = (Pure.pure (Instr.ireturn) : Decoder Instr) := rfl
set_option maxRecDepth 100000 in
theorem dko_173 (pc : Nat) : dk_arm.1 pc (173 : UInt8).toNat = (Pure.pure (Instr.lreturn) : Decoder Instr) := rfl
set_option maxRecDepth 100000 in
theorem dko_174 (pc : Nat) : dk_arm.1 pc (174 : UInt8).toNat = (Pure.pure (Instr.freturn) : Decoder Instr) := rfl
set_option maxRecDepth 100000 in
theorem dko_175 (pc : Nat) : dk_arm.1 pc (175 : UInt8).toNat = (Pure.pure (Instr.dreturn) : Decoder Instr) := rfl
set_option maxRecDepth 100000 in
theorem dko_176 (pc : Nat) : dk_arm.1 pc (176 : UInt8).toNat = (Pure.pure (Instr.areturn) : Decoder Instr) := rfl
set_option maxRecDepth 100000 in
theorem dko_177 (pc : Nat) : dk_arm.1 pc (177 : UInt8).toNat = (Pure.pure (Instr.return_) : Decoder Instr) := rfl
set_option maxRecDepth 100000 in
theorem dko_178 (pc : Nat) : dk_arm.1 pc (178 : UInt8).toNat = (Reader.u2 >>= fun n => Pure.pure (Instr.getstatic n) : Decoder Instr) := rfl
set_option maxRecDepth 100000 in
theorem dko_179 (pc : Nat) : dk_arm.1 pc (179 : UInt8).toNat = (Reader.u2 >>= fun n => Pure.pure (Instr.putstatic n) : Decoder Instr) := rfl
set_option maxRecDepth 100000 in
theorem dko_180 (pc : Nat) : dk_arm.1 pc (180 : UInt8).toNat = (Reader.u2 >>= fun n => Pure.pure (Instr.getfield n) : Decoder Instr) := rfl
set_option maxRecDepth 100000 in
theorem dko_181 (pc : Nat) : dk_arm.1 pc (181 : UInt8).toNat = (Reader.u2 >>= fun n => Pure.pure (Instr.putfield n) : Decoder Instr) := rfl
set_option maxRecDepth 100000 in
theorem dko_182 (pc : Nat) : dk_arm.1 pc (182 : UInt8).toNat = (Reader.u2 >>= fun n => Pure.pure (Instr.invokevirtual n) : Decoder Instr) := rfl
set_option maxRecDepth 100000 in
theorem dko_183 (pc : Nat) : dk_arm.1 pc (183 : UInt8).toNat = (Reader.u2 >>= fun n => Pure.pure (Instr.invokespecial n) : Decoder Instr) := rfl
set_option maxRecDepth 100000 in
theorem dko_184 (pc : Nat) : dk_arm.1 pc (184 : UInt8).toNat = (Reader.u2 >>= fun n => Pure.pure (Instr.invokestatic n) : Decoder Instr) := rfl
set_option maxRecDepth 100000 in
theorem dko_187 (pc : Nat) : dk_arm.1 pc (187 : UInt8).toNat = (Reader.u2 >>= fun n => Pure.pure (Instr.new n) : Decoder Instr) := rfl
set_option maxRecDepth 100000 in
theorem dko_188 (pc : Nat) : dk_arm.1 pc (188 : UInt8).toNat = (Reader.u1 >>= dk_na.1 pc) := rfl
set_option maxRecDepth 100000 in
theorem dko_189 (pc : Nat) : dk_arm.1 pc (189 : UInt8).toNat = (Reader.u2 >>= fun n => Pure.pure (Instr.anewarray n) : Decoder Instr) := rfl
set_option maxRecDepth 100000 in
theorem dko_190 (pc : Nat) : dk_arm.1 pc (190 : UInt8).toNat = (Pure.pure (Instr.arraylength) : Decoder Instr) := rfl
set_option maxRecDepth 100000 in
theorem dko_191 (pc : Nat) : dk_arm.1 pc (191 : UInt8).toNat = (Pure.pure (Instr.athrow) : Decoder Instr) := rfl
set_option maxRecDepth 100000 in
theorem dko_192 (pc : Nat) : dk_arm.1 pc (192 : UInt8).toNat = (Reader.u2 >>= fun n => Pure.pure (Instr.checkcast n) : Decoder Instr) := rfl
set_option maxRecDepth 100000 in
theorem dko_193 (pc : Nat) : dk_arm.1 pc (193 : UInt8).toNat = (Reader.u2 >>= fun n => Pure.pure (Instr.instanceof n) : Decoder Instr) := rfl
set_option maxRecDepth 100000 in
theorem dko_194 (pc : Nat) : dk_arm.1 pc (194 : UInt8).toNat = (Pure.pure (Instr.monitorenter) : Decoder Instr) := rfl
set_option maxRecDepth 100000 in
theorem dko_195 (pc : Nat) : dk_arm.1 pc (195 : UInt8).toNat = (Pure.pure (Instr.monitorexit) : Decoder Instr) := rfl
set_option maxRecDepth 100000 in
theorem dko_198 (pc : Nat) : dk_arm.1 pc (198 : UInt8).toNat = (Reader.s2 >>= fun n => Pure.pure (Instr.ifnull n) : Decoder Instr) := rfl
set_option maxRecDepth 100000 in
theorem dko_199 (pc : Nat) : dk_arm.1 pc (199 : UInt8).toNat = (Reader.s2 >>= fun n => Pure.pure (Instr.ifnonnull n) : Decoder Instr) := rfl
