/-! a frame's facts, what a place must give, and when an instruction is sound -/
def Fr (E : EV) (y : MethodName) (b : ByteArray) (mL : Nat) (ret : Option FieldType) (C : String) (p : Program) (s : State) (m : MethodId) (args : Array Value) (meth : Method) (c : Code) (A : Nat → Prop) : Prop :=
  p.tables.exec = Jvm.exec ∧ c.code = b ∧ meth.sig.returnType = ret ∧ c.maxLocals = mL ∧ s.vm.findClass C = some m.cls ∧ (∀ w ∈ (Cond.code y b mL ret :: lw_gd), w.before args s = true) ∧ meth.locks = false ∧ KK E.dC E.dI E.cI E.cB E.cZ E.cJ s ∧ GM E A s s.heap ∧ (∀ q, s.heap.size ≤ q → A q) ∧ (∀ k, k < shl.length → A (E.ad k)) ∧ AdI shl E
/-- the heap holds the world -/
def HR (E : EV) (w : MW) (A : Nat → Prop) (s : State) (H : Heap) (locs : List Loc) : Prop := va_P (E.dC, E.dI) classes (wO shl E w) H ∧ va_S A s.heap H locs
section OP
variable (E : EV) (l : Launch) (p : Program) (e : Env) (R : Room) (s : State) (m : MethodId) (args : Array Value) (below : List Frame) (meth : Method) (c : Code) (A : Nat → Prop) (mL : Nat) (Q : State → Prop)
def Gd (pc : Nat) (L : Lo) (S : List Value) (w : MW) : Prop := ∀ (H : Heap) (locs : List Loc) (ls : Array Slot), HR E w A s H locs → lv_has ls mL (asc E.ad 0 L) → W p l e R s m args below meth c H locs 0 0 Q (F0 m pc ls (S.map (rv E.ad)))
end OP
/-- what a method may ask of the one that it calls: it comes back with v and the world w' -/
def rmD (d : Nat) : Room := { frames := d + 8, cells := 0, slots := 0, locals := 36 * d + 400 }
def PM (E : EV) (w : MW) (sz : Nat) : State → Prop := fun U => U.heap.size = sz ∧ va_P (E.dC, E.dI) classes (wO shl E w) U.heap ∧ KK E.dC E.dI E.cI E.cB E.cZ E.cJ U ∧ GM E (AM shl E sz) U U.heap ∧ AdI shl E
def QM (E : EV) (v : Option Value) (w' : MW) (sz : Nat) : Array Value → State → Outcome → State → Prop := fun _ st oc t => (oc = .returned (v.map (rv E.ad)) ∧ va_P (E.dC, E.dI) classes (wO shl E w') t.heap) ∧ va_F (AM shl E sz) st t
abbrev MI : Type := MethodName × ByteArray × Nat × Option FieldType
def MetD (E : EV) (l : Launch) (d : Nat) (i : MI) (as : List Value) (w : MW) (v : Option Value) (w' : MW) : Prop := ∀ sz, Met l i.1 (Cond.code i.1 i.2.1 i.2.2.1 i.2.2.2 :: lw_gd) (rmD d) (va_Pc (as.map (rv E.ad)) (PM E w sz)) (QM E v w' sz) 0 0 (AM shl E sz)
theorem pm_blind {E : EV} {w : MW} {sz : Nat} {av : List Value} : FrameBlind (va_Pc av (PM E w sz)) := fun a U g mk q => by
  obtain ⟨q0, q1, qP, qK, qG, qI⟩ := q
  exact ⟨q0, q1, qP, KK.same (u := U) (U := U.calling g mk a) rfl qK, GM.same (U := U) (V := U.calling g mk a) rfl qG, qI⟩
theorem am_in {E : EV} {A : Nat → Prop} {s : State} {H : Heap} {locs : List Loc} (hA : ∀ q, s.heap.size ≤ q → A q) (hc : ∀ k, k < shl.length → A (E.ad k)) (hS : va_S A s.heap H locs) : ∀ q, AM shl E H.size q → A q := fun q h => h.elim (fun ⟨k, h1, h2⟩ => h2 ▸ hc k h1) (fun h => hA q (Nat.le_trans hS.1 h))
theorem pm_pre {E : EV} {w : MW} {av : List Value} {s : State} {H : Heap} {A : Nat → Prop} {locs : List Loc} (hP : va_P (E.dC, E.dI) classes (wO shl E w) H) (hK : KK E.dC E.dI E.cI E.cB E.cZ E.cJ s) (hG : GM E A s s.heap) (hS : va_S A s.heap H locs) (hF : ∀ q, AM shl E H.size q → A q) (hi : AdI shl E) : ∀ U : State, U.heap = H → s.WarmedH U.vm → va_Pc av (PM E w H.size) av.toArray U := fun U hU hW => ⟨rfl, by rw [hU], by rw [hU]; exact hP, hK.warm hW, by rw [hU]; exact hG.go hS hF hW, hi⟩
section CL
variable {E : EV} {l : Launch} {p : Program} {e : Env} {R : Room} {s : State} {m : MethodId} {args : Array Value} {below : List Frame} {meth : Method} {c : Code} {A : Nat → Prop} {Q : State → Prop} {H : Heap} {locs : List Loc} {pc : Nat} {ls : Array Slot} {st0 rest : List Value} {v : Option Value} {w' : MW} {a : Array Value}
theorem m_call (hr : va_Run p l e R s m args below meth c H locs 0 0 0 0 (F0 m pc ls st0) rest (QM E v w' H.size a) (AM shl E H.size)) (hS : va_S A s.heap H locs) (hA : ∀ q, AM shl E H.size q → A q)
    (kk : ∀ (H1 : Heap) (locs1 : List Loc), va_P (E.dC, E.dI) classes (wO shl E w') H1 → va_S A s.heap H1 locs1 → W p l e R s m args below meth c H1 locs1 0 0 Q (F0 m (pc + 3) ls ((v.map (rv E.ad)).toList ++ rest))) : W p l e R s m args below meth c H locs 0 0 Q (F0 m pc ls st0) := by
  intro T hT X
  obtain ⟨v1, st₀, t, T', L, h0, X', hL, e1, e2, ⟨⟨hv, hb⟩, hz, hk⟩, st⟩ := hr T hT X
  cases hv
  rw [h0] at hz hk
  obtain ⟨t2, a1, b1⟩ := kk T'.heap (locs ++ L) (by rw [e1]; exact hb)
    ⟨Nat.le_trans hS.1 (by rw [e1]; exact hz), fun q h1 h2 => by rw [e1, hk q (Nat.lt_of_lt_of_le h1 hS.1) (fun z => h2 (hA q z))]; exact hS.2.1 q h1 h2, fun q hq => by
      rcases List.mem_append.mp hq with h | h
      · exact hS.2.2 q h
      · exact hA _ (hL q h)⟩ T' rfl X'
  exact ⟨t2, st t2 a1, b1⟩
end CL
/-- an instruction's outcome is good: the next place is, or the call's end, or the answer is the asked one -/
def Cn (mt : Nat → MI) (E : EV) (l : Launch) (p : Program) (e : Env) (R : Room) (s : State) (m : MethodId) (args : Array Value) (below : List Frame) (meth : Method) (c : Code) (A : Nat → Prop) (mL : Nat) (vr : Option Value) (wr : MW) (sz d pc : Nat) (L : Lo) (w : MW) : (Nat × Lo × List Value × MW) ⊕ ((Nat × List Value × List Value) ⊕ Option Value) → Prop
  | .inl (pc', L', S', w') => Gd E l p e R s m args below meth c A mL (MQ below (QM E vr wr sz) args s 0 0 (AM shl E sz)) pc' L' S' w'
  | .inr (.inl (ν, as, S')) => ∃ d' v w', d = d' + 1 ∧ (lg_sl as).length ≤ (mt ν).2.2.1 ∧ MetD E l d' (mt ν) as w v w' ∧ Gd E l p e R s m args below meth c A mL (MQ below (QM E vr wr sz) args s 0 0 (AM shl E sz)) (pc + 3) L (v.toList ++ S') w'
  | .inr (.inr v) => v = vr ∧ w = wr
def OpS (mt : Nat → MI) (i : MI) (pc : Nat) (op : Op) : Prop := ∀ (E : EV) (l : Launch) (p : Program) (e : Env) (R : Room) (s : State) (m : MethodId) (args : Array Value) (below : List Frame) (meth : Method) (c : Code) (A : Nat → Prop) (vr : Option Value) (wr : MW) (d : Nat) (L : Lo) (S : List Value) (w : MW) (o : (Nat × Lo × List Value × MW) ⊕ ((Nat × List Value × List Value) ⊕ Option Value)),
  Fr E i.1 i.2.1 i.2.2.1 i.2.2.2 i.1.cls p s m args meth c A → A = AM shl E s.heap.size → d + 8 ≤ R.frames → 36 * d + 400 ≤ R.locals → op L S w = some o → Cn mt E l p e R s m args below meth c A i.2.2.1 vr wr s.heap.size d pc L w o →
  Gd E l p e R s m args below meth c A i.2.2.1 (MQ below (QM E vr wr s.heap.size) args s 0 0 (AM shl E s.heap.size)) pc L S w
/-! the instructions -/
def oK (n : Nat) (v : Value) : Op := fun L S w => some (.inl (n, L, v :: S, w))
def oIl (n i : Nat) : Op := fun L S w => match L[i]? with
  | some (some (.int x)) => some (.inl (n, L, .int x :: S, w))
  | _ => none
def oLl (n i : Nat) : Op := fun L S w => match L[i]? with
  | some (some (.long x)) => some (.inl (n, L, .long x :: S, w))
  | _ => none
def oAl (n i : Nat) : Op := fun L S w => match L[i]? with
  | some (some (.ref x)) => some (.inl (n, L, .ref x :: S, w))
  | _ => none
def oIs (n i : Nat) : Op := fun L S w => match S with
  | .int x :: r => some (.inl (n, st1 i (.int x) L, r, w))
  | _ => none
def oLs (n i : Nat) : Op := fun L S w => match S with
  | .long x :: r => some (.inl (n, st2 i (.long x) L, r, w))
  | _ => none
def oAs (n i : Nat) : Op := fun L S w => match S with
  | .ref x :: r => some (.inl (n, st1 i (.ref x) L, r, w))
  | _ => none
def oIc (n i : Nat) (a : Int32) : Op := fun L S w => match L[i]? with
  | some (some (.int x)) => some (.inl (n, st1 i (.int (x + a)) L, S, w))
  | _ => none
def oII (f : Int32 → Int32 → Int32) (n : Nat) : Op := fun L S w => match S with
  | .int y :: .int x :: r => some (.inl (n, L, .int (f x y) :: r, w))
  | _ => none
def oLL (f : Int64 → Int64 → Int64) (n : Nat) : Op := fun L S w => match S with
  | .long y :: .long x :: r => some (.inl (n, L, .long (f x y) :: r, w))
  | _ => none
def oLI (f : Int64 → Int32 → Int64) (n : Nat) : Op := fun L S w => match S with
  | .int y :: .long x :: r => some (.inl (n, L, .long (f x y) :: r, w))
  | _ => none
def oDI (f : Int32 → Int32 → Int32) (n : Nat) : Op := fun L S w => match S with
  | .int y :: .int x :: r => if ¬ y.toInt = 0 then some (.inl (n, L, .int (f x y) :: r, w)) else none
  | _ => none
def oDL (f : Int64 → Int64 → Int64) (n : Nat) : Op := fun L S w => match S with
  | .long y :: .long x :: r => if ¬ y.toInt = 0 then some (.inl (n, L, .long (f x y) :: r, w)) else none
  | _ => none
def oI1 (f : Int32 → Value) (n : Nat) : Op := fun L S w => match S with
  | .int x :: r => some (.inl (n, L, f x :: r, w))
  | _ => none
def oL1 (f : Int64 → Value) (n : Nat) : Op := fun L S w => match S with
  | .long x :: r => some (.inl (n, L, f x :: r, w))
  | _ => none
def oLc (n : Nat) : Op := fun L S w => match S with
  | .long y :: .long x :: r => some (.inl (n, L, .int (lg_cmp x y) :: r, w))
  | _ => none
def oIf (q : Int32 → Prop) [DecidablePred q] (t n : Nat) : Op := fun L S w => match S with
  | .int x :: r => if q x then some (.inl (t, L, r, w)) else some (.inl (n, L, r, w))
  | _ => none
def oCm (q : Int32 → Int32 → Prop) [∀ x y, Decidable (q x y)] (t n : Nat) : Op := fun L S w => match S with
  | .int y :: .int x :: r => if q x y then some (.inl (t, L, r, w)) else some (.inl (n, L, r, w))
  | _ => none
def oGo (t : Nat) : Op := fun L S w => some (.inl (t, L, S, w))
def oDp (n : Nat) : Op := fun L S w => match S with
  | .int x :: r => some (.inl (n, L, .int x :: .int x :: r, w))
  | .ref x :: r => some (.inl (n, L, .ref x :: .ref x :: r, w))
  | _ => none
def oD2 (n : Nat) : Op := fun L S w => match S with
  | .int y :: .ref x :: r => some (.inl (n, L, .int y :: .ref x :: .int y :: .ref x :: r, w))
  | .int y :: .int x :: r => some (.inl (n, L, .int y :: .int x :: .int y :: .int x :: r, w))
  | .long x :: r => some (.inl (n, L, .long x :: .long x :: r, w))
  | _ => none
def oPp (n : Nat) : Op := fun L S w => match S with
  | .int _ :: r => some (.inl (n, L, r, w))
  | _ => none
def oTb (dflt : Nat) (lo : Int) (ts : List Nat) : Op := fun L S w => match S with
  | .int x :: r => if x.toInt < lo ∨ lo + ts.length ≤ x.toInt then some (.inl (dflt, L, r, w)) else match ts[(x.toInt - lo).toNat]? with
    | some t => some (.inl (t, L, r, w))
    | none => none
  | _ => none
def oGt (n ci j : Nat) : Op := fun L S w => match S with
  | .ref k :: r => match shf k with
    | some (0, c0, fds) => if c0 = ci then match fds[j]? with
      | some t => some (.inl (n, L, fvm w k j t :: r, w))
      | none => none else none
    | _ => none
  | _ => none
def oPI (n ci j : Nat) : Op := fun L S w => match S with
  | .int x :: .ref k :: r => match shf k with
    | some (0, c0, fds) => if c0 = ci ∧ fds[j]? = some 0 then some (.inl (n, L, r, sI w k j x)) else none
    | _ => none
  | _ => none
def oPZ (n ci j : Nat) : Op := fun L S w => match S with
  | .int x :: .ref k :: r => match shf k with
    | some (0, c0, fds) => if c0 = ci ∧ fds[j]? = some 0 ∧ (x.toInt = 0 ∨ x.toInt = 1) then some (.inl (n, L, r, sI w k j x)) else none
    | _ => none
  | _ => none
def oPJ (n ci j : Nat) : Op := fun L S w => match S with
  | .long x :: .ref k :: r => match shf k with
    | some (0, c0, fds) => if c0 = ci ∧ fds[j]? = some 1 then some (.inl (n, L, r, sJ w k j x)) else none
    | _ => none
  | _ => none
def oPR (n ci j : Nat) : Op := fun L S w => match S with
  | .ref x :: .ref k :: r => match shf k with
    | some (0, c0, fds) => if c0 = ci ∧ fds[j]? = some 2 then some (.inl (n, L, r, sR w k j (some x))) else none
    | _ => none
  | _ => none
def oIa (n : Nat) : Op := fun L S w => match S with
  | .int i :: .ref k :: r => match shf k with
    | some (1, len, _) => if 0 ≤ i.toInt ∧ i.toInt < len then some (.inl (n, L, .int (w.1 k i.toInt.toNat) :: r, w)) else none
    | none => if 0 ≤ i.toInt ∧ i.toInt < (stT k).length then some (.inl (n, L, .int ((stT k).getD i.toInt.toNat 0) :: r, w)) else none
    | _ => none
  | _ => none
def oBa (n : Nat) : Op := fun L S w => match S with
  | .int i :: .ref k :: r => match shf k with
    | some (2, len, _) => if 0 ≤ i.toInt ∧ i.toInt < len then some (.inl (n, L, .int (w.1 k i.toInt.toNat) :: r, w)) else none
    | some (3, len, _) => if 0 ≤ i.toInt ∧ i.toInt < len then some (.inl (n, L, .int (w.1 k i.toInt.toNat) :: r, w)) else none
    | _ => none
  | _ => none
def oLa (n : Nat) : Op := fun L S w => match S with
  | .int i :: .ref k :: r => match shf k with
    | some (4, len, _) => if 0 ≤ i.toInt ∧ i.toInt < len then some (.inl (n, L, .long (w.2.1 k i.toInt.toNat) :: r, w)) else none
    | _ => none
  | _ => none
def oIx (n : Nat) : Op := fun L S w => match S with
  | .int x :: .int i :: .ref k :: r => match shf k with
    | some (1, len, _) => if 0 ≤ i.toInt ∧ i.toInt < len then some (.inl (n, L, r, sI w k i.toInt.toNat x)) else none
    | _ => none
  | _ => none
def oBx (n : Nat) : Op := fun L S w => match S with
  | .int x :: .int i :: .ref k :: r => match shf k with
    | some (2, len, _) => if 0 ≤ i.toInt ∧ i.toInt < len then some (.inl (n, L, r, sI w k i.toInt.toNat (vp_nar .byte x))) else none
    | some (3, len, _) => if 0 ≤ i.toInt ∧ i.toInt < len then some (.inl (n, L, r, sI w k i.toInt.toNat (vp_nar .boolean x))) else none
    | _ => none
  | _ => none
def oLx (n : Nat) : Op := fun L S w => match S with
  | .long x :: .int i :: .ref k :: r => match shf k with
    | some (4, len, _) => if 0 ≤ i.toInt ∧ i.toInt < len then some (.inl (n, L, r, sJ w k i.toInt.toNat x)) else none
    | _ => none
  | _ => none
def oAn (n : Nat) : Op := fun L S w => match S with
  | .ref k :: r => match shf k with
    | some (0, _, _) => none
    | some (_, len, _) => some (.inl (n, L, .int (Int32.ofNat len) :: r, w))
    | none => none
  | _ => none
def oRv : Op := fun _ S _ => match S with
  | [] => some (.inr (.inr none))
  | _ => none
def oRi : Op := fun _ S _ => match S with
  | [.int x] => some (.inr (.inr (some (.int x))))
  | _ => none
def oRz : Op := fun _ S _ => match S with
  | [.int x] => if x.toInt = 0 ∨ x.toInt = 1 then some (.inr (.inr (some (.int x)))) else none
  | _ => none
def oRl : Op := fun _ S _ => match S with
  | [.long x] => some (.inr (.inr (some (.long x))))
  | _ => none
def oCV (ν na ci : Nat) : Op := fun _ S _ => match S.drop na with
  | .ref k :: r => match shf k with
    | some (0, c0, _) => if c0 = ci ∧ (r.map fun v => v.category).sum ≤ 8 then some (.inr (.inl (ν, .ref k :: (S.take na).reverse, r))) else none
    | _ => none
  | _ => none
def oCS (ν na : Nat) : Op := fun _ S _ => if na ≤ S.length ∧ ((S.drop na).map fun v => v.category).sum ≤ 8 then some (.inr (.inl (ν, (S.take na).reverse, S.drop na))) else none
def oBad : Op := fun _ _ _ => none
def oLk (dflt : Nat) (ps : List (Int × Nat)) : Op := fun L S w => match S with
  | .int x :: r => some (.inl ((ps.lookup x.toInt).getD dflt, L, r, w))
  | _ => none
/-- length and charAt of a constant text -/
def oSl (n : Nat) : Op := fun L S w => match S with
  | .ref k :: r => if 2000 ≤ k ∧ k < 2018 ∧ (r.map fun v => v.category).sum ≤ 8 then some (.inl (n, L, .int (nI (txL.getD (k - 2000) 0)) :: r, w)) else none
  | _ => none
def oSc (n : Nat) : Op := fun L S w => match S with
  | .int j :: .ref k :: r => if 2000 ≤ k ∧ k < 2018 ∧ (r.map fun v => v.category).sum ≤ 8 ∧ 0 ≤ j.toInt ∧ j.toInt < (txL.getD (k - 2000) 0 : Nat) then some (.inl (n, L, .int (((txB.getD (k - 2000) []).getD j.toInt.toNat 0) &&& 255) :: r, w)) else none
  | _ => none
