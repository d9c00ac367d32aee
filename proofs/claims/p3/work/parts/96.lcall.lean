/-! calls of the law, in the small machine's worlds -/
def lw_w0 : Cond := .initialized "BreweryHouse"
section LC
variable {E : EV} {l : Launch} {p : Program} {e : Env} {s : State} {m : MethodId} {b : Nat} {below : List Frame} {meth : Method} {c : Code} {A : Nat → Prop} {Q : State → Prop} {H : Heap} {locs : List Loc} {pc : Nat} {ls : Array Slot} {rest : List Value}
theorem m_callG {st0 : List Value} {v : Option Value} {w' : MW} {a : Array Value} (hr : va_Run p l e room_1 s m #[Value.ref b] below meth c H locs 221 83122 0 0 (F0 m pc ls st0) rest (QM E v w' H.size a) (AM shl E H.size)) (hS : va_S A s.heap H locs) (hA : ∀ q, AM shl E H.size q → A q)
    (kk : ∀ (H1 : Heap) (locs1 : List Loc), va_P (E.dC, E.dI) classes (wO shl E w') H1 → va_S A s.heap H1 locs1 → W p l e room_1 s m #[Value.ref b] below meth c H1 locs1 221 83122 Q (F0 m (pc + 3) ls ((v.map (rv E.ad)).toList ++ rest))) : W p l e room_1 s m #[Value.ref b] below meth c H locs 221 83122 Q (F0 m pc ls st0) := by
  intro T hT X
  obtain ⟨v1, st₀, t, T', L, h0, X', hL, e1, e2, ⟨⟨hv, hb⟩, hz, hk⟩, st⟩ := hr T hT X
  cases hv
  rw [h0] at hz hk
  obtain ⟨t2, a1, b1⟩ := kk T'.heap (locs ++ L) (by rw [e1]; exact hb)
    ⟨Nat.le_trans hS.1 (by rw [e1]; exact hz), fun q h1 h2 => by rw [e1, hk q (Nat.lt_of_lt_of_le h1 hS.1) (fun z => h2 (hA q z))]; exact hS.2.1 q h1 h2, fun q hq => by
      rcases List.mem_append.mp hq with h | h
      · exact hS.2.2 q h
      · exact hA _ (hL q h)⟩ T' rfl X'
  exact ⟨t2, st t2 a1, b1⟩
/-- what the law's frame knows behind the constructors -/
def LwF (E : EV) (p : Program) (s : State) (m : MethodId) (c : Code) (b : Nat) (A : Nat → Prop) : Prop := p.tables.exec = Jvm.exec ∧ c.code = code ∧ c.maxLocals = 4 ∧ s.vm.findClass R_law = some m.cls ∧ (∀ w ∈ (lw_w0 :: lw_gd), w.before #[Value.ref b] s = true) ∧ KK E.dC E.dI E.cI E.cB E.cZ E.cJ s ∧ GM E A s s.heap ∧ (∀ q, s.heap.size ≤ q → A q) ∧ (∀ k, k < shl.length → A (E.ad k)) ∧ AdI shl E
set_option maxRecDepth 100000 in
theorem lw_cv {ν na ci idx k : Nat} {fds : List Nat} {iv : MI} {q : vw_C} {As : List Value} {w : MW} {Qc : Option Value → MW → Prop} {lv : List (Nat × Value)} (F : LwF E p s m c b A) (hmt : mt ν = iv) (hcl : classes[ci]? = some q) (hq : q.1 = iv.1.cls) (h1 : Cond.methodLink R_law idx iv.1 ∈ lw_gd) (h2 : Cond.instanceMethod iv.1 ∈ lw_gd) (h3 : Cond.selects iv.1.cls iv.1 iv.1 ∈ lw_gd) (h4 : Cond.initialized iv.1.cls ∈ lw_gd) (h5 : Cond.code iv.1 iv.2.1 iv.2.2.1 iv.2.2.2 ∈ lw_gd) (h6 : iv.1.cls ≠ "java/lang/invoke/MethodHandle" ∧ iv.1.cls ≠ "java/lang/invoke/VarHandle" ∧ (parseMethodDescriptor iv.1.desc).map (fun d => d.parameters.length) = some na) (h7 : iv.2.2.1 ≤ 17) (hd : decode code pc = .ok (.invokevirtual idx, 3)) (hk : shf k = some (0, ci, fds)) (hn : As.length = na) (hsum : (rest.map (fun v => v.category)).sum ≤ 8) (hrv : As.map (rv E.ad) = As) (hlen : (lg_sl (.ref k :: As)).length ≤ (mt ν).2.2.1) (hT : Tc 2000 ν (.ref k :: As) w Qc) (hH : HR E w A s H locs) (hl : lv_has ls 4 lv)
    (kk : ∀ (v : Option Value) (w1 : MW) (H1 : Heap) (locs1 : List Loc), Qc v w1 → HR E w1 A s H1 locs1 → W p l e room_1 s m #[Value.ref b] below meth c H1 locs1 221 83122 Q (F0 m (pc + 3) ls ((v.map (rv E.ad)).toList ++ rest))) : W p l e room_1 s m #[Value.ref b] below meth c H locs 221 83122 Q (F0 m pc ls (As.reverse ++ .ref (E.ad k) :: rest)) := by
  obtain ⟨hx, hb, hml, hown, hts, hK, hG, hAs, hAc, hi⟩ := F
  obtain ⟨v, w1, ⟨f, hf⟩, hQ⟩ := hT
  have hM : MetD E l 2000 (mt ν) (.ref k :: As) w v w1 := mi_met mc_ok mt_pl l E hlen hf
  rw [hmt] at hM
  have hF := am_in hAs hAc hH.2
  have hm : (Value.ref k :: As).map (rv E.ad) = .ref (E.ad k) :: As := by
    rw [List.map_cons, hrv]
    rfl
  have hM2 := hM H.size
  rw [hm] at hM2
  refine m_callG (va_runV (C := iv.1.cls) (As := As) (rest := rest) ⟨hx, hb, hml, hown, hts⟩ hM2 (cwV na hts (tb_V h1 h2 h3 h4 h5) rfl rfl rfl ⟨rfl, h6.1, h6.2.1, h6.2.2⟩ ⟨?_, ?_⟩) ⟨pm_blind, ?_, pm_pre hH.1 hK hG hH.2 hF hi⟩ rfl hn hl.1 rfl (lv_room ?_) hd ⟨Nat.le_of_ble_eq_true rfl, Nat.le_of_ble_eq_true rfl⟩) hH.2 hF (fun H1 locs1 hP1 hS1 => kk v w1 H1 locs1 hQ ⟨hP1, hS1⟩)
  · show 2000 + 8 + 1 ≤ 2048
    decide
  · show 8 + (iv.2.2.1 + 11) + (36 * 2000 + 400) ≤ 84000
    omega
  · have h9 := va_recv (q := q) hK.1 hH.1 hcl (q0 := k) (wO_get (shf_ok hk))
    rw [hq] at h9
    exact h9
  · exact hsum
end LC
