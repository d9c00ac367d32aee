/-! the reference lets a line in just when its lines so far let it in -/
/-- the reference's number of a kind -/
def mkd (x : Ln) : Int := if x.1 = 0 then 0 else if x.1 = 1 then 1 else 2 + x.2.1
def gdT (y : Ln) : Prop := y.1 = 0 ∨ y.1 = 1 ∨ (y.1 = 2 ∧ 0 ≤ y.2.1 ∧ y.2.1 ≤ 7)
def rmZ (k : Int) : Int := if k = 0 then 1000 else if k = 1 then 2 else if k = 3 then 3 else if k = 4 then 3 else if k = 6 then 4 else if k = 7 then 1 else 2
theorem rm_z (k : Int32) : (rm k).toInt = rmZ k.toInt := by
  unfold rm rmZ
  by_cases c0 : k.toInt = 0
  · rw [if_pos c0, if_pos c0]; decide
  rw [if_neg c0, if_neg c0]
  by_cases c1 : k.toInt = 1
  · rw [if_pos c1, if_pos c1]; decide
  rw [if_neg c1, if_neg c1]
  by_cases c3 : k.toInt = 3
  · rw [if_pos c3, if_pos c3]; decide
  rw [if_neg c3, if_neg c3]
  by_cases c4 : k.toInt = 4
  · rw [if_pos c4, if_pos c4]; decide
  rw [if_neg c4, if_neg c4]
  by_cases c6 : k.toInt = 6
  · rw [if_pos c6, if_pos c6]; decide
  rw [if_neg c6, if_neg c6]
  by_cases c7 : k.toInt = 7
  · rw [if_pos c7, if_pos c7]; decide
  rw [if_neg c7, if_neg c7]
  decide
theorem rmZ_v : ∀ v : Nat, v < 8 → rmZ (2 + (v : Int)) = pcn (v : Int) := by decide +kernel
theorem rmZ_p : rmZ 1 = pcn 8 := by decide +kernel
theorem pcn_9 : pcn 9 = 48 := by decide +kernel
theorem rm_pcn {k : Int32} {y : Ln} (hk : k.toInt = mkd y) (g : gdT y) : (y.1 = 0 ∧ (rm k).toInt = 1000) ∨ (¬ y.1 = 0 ∧ (rm k).toInt = pcn (ckd y)) := by
  rw [rm_z, hk]
  rcases g with g | g | g
  · refine Or.inl ⟨g, ?_⟩
    have e : mkd y = 0 := by unfold mkd; rw [if_pos g]
    rw [e]
    decide
  · refine Or.inr ⟨by omega, ?_⟩
    have e : mkd y = 1 := by unfold mkd; rw [if_neg (by omega), if_pos g]
    have e2 : ckd y = 8 := by unfold ckd; rw [if_neg (by omega), if_pos g]
    rw [e, e2]
    exact rmZ_p
  · refine Or.inr ⟨by omega, ?_⟩
    have e : mkd y = 2 + y.2.1 := by unfold mkd; rw [if_neg (by omega), if_neg (by omega)]
    have e2 : ckd y = y.2.1 := by unfold ckd; rw [if_neg (by omega), if_neg (by omega)]
    rw [e, e2]
    have q := rmZ_v y.2.1.toNat (by omega)
    have q2 : ((y.2.1.toNat : Nat) : Int) = y.2.1 := by omega
    rw [q2] at q
    exact q
theorem prt_b (ls : List Ln) (t : Int) : 0 ≤ prt ls t ∧ prt ls t ≤ 2 * ((pip ls).length : Int) := by
  unfold prt
  have a := List.length_filter_le (fun x : Ln => x.2.1 == t) (pip ls)
  have b := List.length_filter_le (fun x : Ln => x.2.2.1 == t) (pip ls)
  omega
theorem room_x {w : MW} {k : Int32} {Q : Int32 → MW → Prop} (hQ : Q (rm k) w) : p_Mo_room w k Q := by
  refine Eq.mpr (p_Mo_room.eq_1 _ _ _) ?_
  unfold rm at hQ
  refine ⟨fun c0 => ⟨fun c1 => ⟨fun c3 => ?_, fun c3 => ⟨fun c4 => ⟨fun c6 => ⟨fun c7 => ?_, fun c7 => ?_⟩, fun c6 => ?_⟩, fun c4 => ?_⟩⟩, fun c1 => ?_⟩, fun c0 => ?_⟩
  · rw [if_neg c0, if_neg c1, if_pos c3] at hQ
    exact hQ
  · rw [if_neg c0, if_neg c1, if_neg c3, if_neg c4, if_neg c6, if_neg c7] at hQ
    exact hQ
  · rw [if_neg c0, if_neg c1, if_neg c3, if_neg c4, if_neg c6, if_pos (Classical.not_not.mp c7)] at hQ
    exact hQ
  · rw [if_neg c0, if_neg c1, if_neg c3, if_neg c4, if_pos (Classical.not_not.mp c6)] at hQ
    exact hQ
  · rw [if_neg c0, if_neg c1, if_neg c3, if_pos (Classical.not_not.mp c4)] at hQ
    exact hQ
  · rw [if_neg c0, if_pos (Classical.not_not.mp c1)] at hQ
    exact hQ
  · rw [if_pos (Classical.not_not.mp c0)] at hQ
    exact hQ
/-- the lines that the first pass has let in -/
def PN (w : MW) (ls : List Ln) : Prop := (w.1 127 85).toInt = ((thg ls).length : Int) ∧ (w.1 127 86).toInt = ((pip ls).length : Int) ∧ (∀ (t : Nat) (y : Ln), (thg ls)[t]? = some y → (w.1 179 t).toInt = mkd y ∧ (w.1 180 t).toInt = prt ls t ∧ gdT y) ∧ (∀ t : Nat, (thg ls).length ≤ t → prt ls t = 0)
theorem pn_fr {l : Pl} {w w' : MW} {ls : List Ln} (h : PN w ls) (hF : FR l w w') (ho : off l [(127, some 85), (127, some 86), (179, none), (180, none)] = true) : PN w' ls := by
  have q : ∀ k j, hit [(127, some 85), (127, some 86), (179, none), (180, none)] k j = true → w'.1 k j = w.1 k j := fun k j hk => (hF k j (off_hit ho hk)).1
  refine ⟨by rw [q 127 85 rfl]; exact h.1, by rw [q 127 86 rfl]; exact h.2.1, fun t y e => ?_, h.2.2.2⟩
  rw [q 179 t rfl, q 180 t rfl]
  exact h.2.2.1 t y e
def lin_ : Pl := [(127, some 85), (127, some 86), (179, none), (180, none)]
theorem in_91 {w : MW} {ls : List Ln} {x : Ln} {k : Int32} {Q : Int32 → MW → Prop} (hI : BND w) (h : PN w ls) (hx : ¬ x.1 = 3) (hk : k.toInt = mkd x) (g : gdT x) (c : (thg ls).length < 20) (h1 : ∀ w', BND w' → FR lin_ w w' → PN w' (ls ++ [x]) → Q 1 w') : q_Mo_isNew_91 1 k (w.1 127 85) w Q := by
  have n0 := h.1
  have b := bd_127_85 hI
  have s := ti_add2 (Eq.refl (w.1 127 85).toInt) i_1 (by omega) (by omega)
  have kb : 0 ≤ k.toInt ∧ k.toInt ≤ 9 := by
    rw [hk]
    unfold mkd
    rcases g with g | g | g
    · rw [if_pos g]
      omega
    · rw [if_neg (by omega), if_pos g]
      omega
    · rw [if_neg (by omega), if_neg (by omega)]
      omega
  have n : (w.1 127 85).toInt.toNat = (thg ls).length := by omega
  refine Eq.mpr (q_Mo_isNew_91.eq_1 _ _ _ _ _) ⟨⟨by omega, by omega⟩, ⟨by omega, by omega⟩, Or.inr i_1, h1 _ (wbd_127_85 (wbd_180 (wbd_179 hI _ kb.1 kb.2) _) (by omega) (by omega)) (FR.I (FR.I (FR.I (FR.refl _ w) rfl) rfl) rfl) ⟨?_, ?_, fun t y e => ?_, fun t ht => ?_⟩⟩
  · rw [sI_same, s, n0, thg_t ls x hx, List.length_append]
    rfl
  · rw [sI_ne _ _ _ _ _ (by decide), sI_oth _ _ _ _ _ _ (by decide), sI_oth _ _ _ _ _ _ (by decide), pip_t ls x hx]
    exact h.2.1
  · have f179 : (sI (sI (sI w 179 (w.1 127 85).toInt.toNat k) 180 (w.1 127 85).toInt.toNat 0) 127 85 ((w.1 127 85) + (1 : Int32))).1 179 t = if t = (thg ls).length then k else w.1 179 t := by
      rw [sI_oth _ _ _ _ _ _ (by decide), sI_oth _ _ _ _ _ _ (by decide), sI_at, n]
      by_cases q : t = (thg ls).length
      · rw [if_pos q, if_pos ⟨rfl, q⟩]
      · rw [if_neg q, if_neg (fun z => q z.2)]
    have f180 : (sI (sI (sI w 179 (w.1 127 85).toInt.toNat k) 180 (w.1 127 85).toInt.toNat 0) 127 85 ((w.1 127 85) + (1 : Int32))).1 180 t = if t = (thg ls).length then 0 else w.1 180 t := by
      rw [sI_oth _ _ _ _ _ _ (by decide), sI_at, n]
      by_cases q : t = (thg ls).length
      · rw [if_pos q, if_pos ⟨rfl, q⟩]
      · rw [if_neg q, if_neg (fun z => q z.2), sI_oth _ _ _ _ _ _ (by decide)]
    rw [f179, f180, prt_t ls x hx]
    rw [thg_t ls x hx] at e
    by_cases q : t = (thg ls).length
    · rw [if_pos q, if_pos q]
      rw [q, List.getElem?_append_right (Nat.le_refl _), Nat.sub_self] at e
      have ey : x = y := Option.some.inj e
      rw [← ey]
      refine ⟨hk, ?_, g⟩
      rw [i_0, h.2.2.2 t (by omega)]
    · rw [if_neg q, if_neg q]
      have lt : t < (thg ls).length := by
        by_cases c : t < (thg ls).length
        · exact c
        · have l2 := (List.getElem?_eq_some_iff.mp e).1
          rw [List.length_append] at l2
          have : ([x] : List Ln).length = 1 := rfl
          omega
      rw [List.getElem?_append_left lt] at e
      exact h.2.2.1 t y e
  · rw [prt_t ls x hx]
    rw [thg_t ls x hx, List.length_append] at ht
    exact h.2.2.2 t (by have : ([x] : List Ln).length = 1 := rfl; omega)
/-- what the reference is told of a line -/
def LnW (w : MW) (r : Int32) (x : Ln) : Prop := (r.toInt = 0 ∧ x.1 = 0 ∧ x.2.1 = (w.1 178 0).toInt) ∨ (r.toInt = 1 ∧ x.1 = 1) ∨ (r.toInt = 2 ∧ x.1 = 2 ∧ x.2.1 = (w.1 178 0).toInt) ∨ (r.toInt = 3 ∧ x.1 = 3 ∧ x.2.1 = (w.1 178 0).toInt ∧ x.2.2.1 = (w.1 178 1).toInt ∧ x.2.2.2 = (w.1 178 2).toInt)
theorem in_t {w : MW} {ls : List Ln} {r : Int32} {x : Ln} {Q : Int32 → MW → Prop} (hI : BND w) (h : PN w ls) (hx : LnW w r x) (r3 : ¬ r.toInt = 3) (v2 : r.toInt = 2 → 0 ≤ (w.1 178 0).toInt) (h1 : ∀ w', BND w' → FR lin_ w w' → okL ls x → PN w' (ls ++ [x]) → Q 1 w') (h0 : ¬ okL ls x → Q 0 w) : p_Mo_isNew w r Q := by
  have n0 := h.1
  have Z : ¬ okL ls x → q_Mo_isNew_61 r 0 w Q := fun k => Eq.mpr (q_Mo_isNew_61.eq_1 _ _ _ _) ⟨fun _ => ⟨Or.inl i_0, h0 k⟩, fun c => absurd i_0 c⟩
  have nx : ¬ x.1 = 3 := by
    rcases hx with q | q | q | q
    · omega
    · omega
    · omega
    · exact absurd q.1 r3
  have G : okL ls x → q_Mo_isNew_61 r 1 w Q := fun ok => by
    have lt := ok_t nx ok
    have b := bd_178 hI 0
    refine Eq.mpr (q_Mo_isNew_61.eq_1 _ _ _ _) ⟨fun c => absurd c (by decide), fun _ => ⟨fun c2 => in_91 hI h nx ?_ ?_ lt (fun w' B F P => h1 w' B F ok P), fun c2 => in_91 hI h nx ?_ ?_ lt (fun w' B F P => h1 w' B F ok P)⟩⟩
    · unfold mkd
      rcases hx with q | q | q | q
      · rw [if_pos q.2.1]
        exact q.1
      · rw [if_neg (by omega), if_pos q.2]
        exact q.1
      · exact absurd q.1 c2
      · exact absurd q.1 r3
    · rcases hx with q | q | q | q
      · exact Or.inl q.2.1
      · exact Or.inr (Or.inl q.2)
      · exact absurd q.1 c2
      · exact absurd q.1 r3
    · have c2 := Classical.not_not.mp c2
      have e2 := ti_add2 (by decide : ((2 : Int32)).toInt = 2) (Eq.refl (w.1 178 0).toInt) (by omega) (by omega)
      rw [e2]
      unfold mkd
      rcases hx with q | q | q | q
      · omega
      · omega
      · rw [if_neg (by omega), if_neg (by omega), q.2.2]
      · omega
    · have c2 := Classical.not_not.mp c2
      rcases hx with q | q | q | q
      · omega
      · omega
      · refine Or.inr (Or.inr ⟨q.2.1, ?_⟩)
        rcases ok with o | o | o | o
        · omega
        · omega
        · exact ⟨o.2.1, o.2.2.1⟩
        · omega
      · omega
  have N : (thg ls).length < 20 → ¬ r.toInt = 0 ∨ (1 ≤ (w.1 178 0).toInt ∧ (w.1 178 0).toInt ≤ 100000) → ¬ r.toInt = 2 ∨ (w.1 178 0).toInt ≤ 7 → okL ls x := fun lt t0 t2 => by
    rcases hx with q | q | q | q
    · have t := t0.resolve_left (fun z => z q.1)
      exact Or.inl ⟨q.2.1, by omega, by omega, lt⟩
    · exact Or.inr (Or.inl ⟨q.2, lt⟩)
    · have t := t2.resolve_left (fun z => z q.1)
      have v := v2 q.1
      exact Or.inr (Or.inr (Or.inl ⟨q.2.1, by omega, by omega, lt⟩))
    · exact absurd q.1 r3
  have F40 : (thg ls).length < 20 → (¬ r.toInt = 0 ∨ (1 ≤ (w.1 178 0).toInt ∧ (w.1 178 0).toInt ≤ 100000)) → q_Mo_isNew_40 r w Q := fun lt t0 => by
    refine Eq.mpr (q_Mo_isNew_40.eq_1 _ _ _) ⟨fun c => G (N lt t0 (Or.inl c)), fun c => ⟨fun c7 => Z (fun ok => ?_), fun c7 => G (N lt t0 (Or.inr (by omega)))⟩⟩
    have c := Classical.not_not.mp c
    rcases hx with q | q | q | q
    · omega
    · omega
    · rcases ok with o | o | o | o
      · omega
      · omega
      · have := o.2.2.1
        omega
      · omega
    · omega
  refine Eq.mpr (p_Mo_isNew.eq_1 _ _ _) ⟨fun c => absurd c r3, fun _ => ⟨fun c => Z (fun ok => ?_), fun c => ⟨fun c0 => F40 (by omega) (Or.inl c0), fun c0 => ⟨fun d => Z (fun ok => ?_), fun d => ⟨fun d2 => Z (fun ok => ?_), fun d2 => F40 (by omega) (Or.inr ⟨by omega, by omega⟩)⟩⟩⟩⟩⟩
  · have := ok_t nx ok
    omega
  · have c0 := Classical.not_not.mp c0
    rcases hx with q | q | q | q
    · rcases ok with o | o | o | o
      · have := o.2.1
        omega
      · omega
      · omega
      · omega
    · omega
    · omega
    · omega
  · have c0 := Classical.not_not.mp c0
    rcases hx with q | q | q | q
    · rcases ok with o | o | o | o
      · have := o.2.2.1
        omega
      · omega
      · omega
      · omega
    · omega
    · omega
    · omega
