def mi (mt : Nat → MI) (cd : Nat → Nat → Op) : Nat → Nat → Nat → Nat → Lo → List Value → MW → Option (Option Value × MW)
  | 0, _, _, _, _, _, _ => none
  | f + 1, d, μ, pc, L, S, w => match cd μ pc L S w with
    | none => none
    | some (.inl q) => mi mt cd f d μ q.1 q.2.1 q.2.2.1 q.2.2.2
    | some (.inr (.inl q)) => match d with
      | 0 => none
      | d' + 1 => if (lg_sl q.2.1).length ≤ (mt q.1).2.2.1 then match mi mt cd f d' q.1 0 (mkL (mt q.1).2.2.1 q.2.1) [] w with
        | none => none
        | some r => mi mt cd f (d' + 1) μ (pc + 3) L (r.1.toList ++ q.2.2) r.2
        else none
    | some (.inr (.inr v)) => some (v, w)
theorem Met.ofWF {l : Launch} {y : MethodName} {ws ws' : List Cond} {rm : Room} {Pc : Array Value → State → Prop} {Qc : Array Value → State → Outcome → State → Prop} {mc ms : Nat} {free : Addr → Prop} {cc : ByteArray} {maxL : Nat} {ret : Option FieldType}
    (hy : plainFor y = true) (hw : ws = Cond.code y cc maxL ret :: ws')
    (body : ∀ p e s m args below meth c s₁, BodyLoose p l y (headSpec ws rm) cc maxL ret e s m args below meth c s₁ → c.maxLocals = maxL → Pc args s →
      W p l e (headSpec ws rm).room s m args below meth c s.heap [] 0 0 (MQ below Qc args s mc ms free) (entryFrame m args maxL)) : Met l y ws rm Pc Qc mc ms free := by
  refine MetFree.of_bodySF (code := cc) (maxLocals := maxL) (ret := ret) hy ?_ ?_
  · intro args s m h hn
    obtain ⟨meth, c, h1, h2, h3, h4, h5, h6, -, -⟩ := Cond.code_spec hn (atoms_spec (ws := ws) h _ (by rw [hw]; exact List.mem_cons_self))
    exact ⟨meth, c, h1, h2, h3, h4, h5, h6⟩
  · intro p e s m args below meth c s₁ B hml hP _
    have hh0 : s₁.heap = s.heap := by rw [B.state]; rfl
    obtain ⟨t, a1, o, b1, b2, b3⟩ := body p e s m args below meth c s₁ B hml hP s₁ hh0 (Stand.of_body B)
    exact ⟨t, o, a1, b1, b2, ⟨b3.1, b3.2⟩⟩
theorem met_of {E : EV} {l : Launch} {d : Nat} {i : MI} {as : List Value} {w w' : MW} {v : Option Value} (hpl : plainFor i.1 = true) (hlen : (lg_sl as).length ≤ i.2.2.1)
    (hW : ∀ (p : Program) (e : Env) (R : Room) (s : State) (m : MethodId) (args : Array Value) (below : List Frame) (meth : Method) (c : Code) (A : Nat → Prop), Fr E i.1 i.2.1 i.2.2.1 i.2.2.2 i.1.cls p s m args meth c A → A = AM shl E s.heap.size → d + 8 ≤ R.frames → 36 * d + 400 ≤ R.locals → Gd E l p e R s m args below meth c A i.2.2.1 (MQ below (QM E v w' s.heap.size) args s 0 0 (AM shl E s.heap.size)) 0 (mkL i.2.2.1 as) [] w) : MetD E l d i as w v w' := by
  intro sz
  refine Met.ofWF (cc := i.2.1) (maxL := i.2.2.1) (ret := i.2.2.2) hpl rfl ?_
  intro p e s m args below meth c s₁ B hml hv
  obtain ⟨rfl, hsz, hP, hK, hG, hi⟩ := hv
  subst hsz
  have hts := atoms_spec (ws := Cond.code i.1 i.2.1 i.2.2.1 i.2.2.2 :: lw_gd) B.pre
  have hown : s.vm.findClass i.1.cls = some m.cls := findClass_of_methodNamed B.named
  rw [lg_entry_eq]
  have hl := lv_entry (as.map (rv E.ad)) (n := i.2.2.1) (by rw [sl_len]; exact hlen)
  have hl := lv_mono hl (mkL_mem (n := i.2.2.1))
  exact hW p e _ s m _ below meth c _ ⟨B.exec, B.bytes, B.returns, hml, hown, hts, B.notSynchronized, hK, hG, fun q h => Or.inr h, fun k h => Or.inl ⟨k, h, rfl⟩, hi⟩ rfl (Nat.le_refl _) (Nat.le_refl _) s.heap [] _ ⟨hP, va_S.rf⟩ hl
theorem mi_ok {mt : Nat → MI} {cd : Nat → Nat → Op} (hcd : ∀ μ pc, OpS mt (mt μ) pc (cd μ pc)) (hpl : ∀ μ, plainFor (mt μ).1 = true) (l : Launch) (E : EV) : ∀ (f d μ pc : Nat) (L : Lo) (S : List Value) (w : MW) (v : Option Value) (w' : MW), mi mt cd f d μ pc L S w = some (v, w') →
    ∀ (p : Program) (e : Env) (R : Room) (s : State) (m : MethodId) (args : Array Value) (below : List Frame) (meth : Method) (c : Code) (A : Nat → Prop), Fr E (mt μ).1 (mt μ).2.1 (mt μ).2.2.1 (mt μ).2.2.2 (mt μ).1.cls p s m args meth c A → A = AM shl E s.heap.size → d + 8 ≤ R.frames → 36 * d + 400 ≤ R.locals →
      Gd E l p e R s m args below meth c A (mt μ).2.2.1 (MQ below (QM E v w' s.heap.size) args s 0 0 (AM shl E s.heap.size)) pc L S w := by
  intro f
  induction f with
  | zero => intro d μ pc L S w v w' h; cases h
  | succ f ih =>
    intro d μ pc L S w v w' h p e R s m args below meth c A F hA h1 h2
    unfold mi at h
    split at h
    · cases h
    · next q hq => exact hcd μ pc E l p e R s m args below meth c A v w' d L S w (.inl q) F hA h1 h2 hq (ih d μ q.1 q.2.1 q.2.2.1 q.2.2.2 v w' h p e R s m args below meth c A F hA h1 h2)
    · next q hq =>
      split at h
      · cases h
      · next d' =>
        split at h
        · next hlen =>
          split at h
          · cases h
          · next r hr =>
            refine hcd μ pc E l p e R s m args below meth c A v w' (d' + 1) L S w (.inr (.inl q)) F hA h1 h2 hq ⟨d', r.1, r.2, rfl, hlen, met_of (hpl _) hlen (fun p e R s m args below meth c A => ih d' q.1 0 (mkL (mt q.1).2.2.1 q.2.1) [] w r.1 r.2 hr p e R s m args below meth c A), ?_⟩
            exact ih (d' + 1) μ (pc + 3) L (r.1.toList ++ q.2.2) r.2 v w' h p e R s m args below meth c A F hA h1 h2
        · cases h
    · next v0 hq =>
      simp only [Option.some.injEq, Prod.mk.injEq] at h
      exact hcd μ pc E l p e R s m args below meth c A v w' d L S w (.inr (.inr v0)) F hA h1 h2 hq h
/-- a method that comes to its end in the small machine keeps its contract -/
theorem mi_met {mt : Nat → MI} {cd : Nat → Nat → Op} (hcd : ∀ μ pc, OpS mt (mt μ) pc (cd μ pc)) (hpl : ∀ μ, plainFor (mt μ).1 = true) (l : Launch) (E : EV) {f d μ : Nat} {as : List Value} {w w' : MW} {v : Option Value} (hlen : (lg_sl as).length ≤ (mt μ).2.2.1) (h : mi mt cd f d μ 0 (mkL (mt μ).2.2.1 as) [] w = some (v, w')) : MetD E l d (mt μ) as w v w' :=
  met_of (hpl μ) hlen (fun p e R s m args below meth c A => mi_ok hcd hpl l E f d μ 0 (mkL (mt μ).2.2.1 as) [] w v w' h p e R s m args below meth c A)
