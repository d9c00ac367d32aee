/-! the reference's plant as the list of its lines: things -/
theorem sI_if (w : MW) (k j : Nat) (v : Int32) (t : Nat) : (sI w k j v).1 k t = if t = j then v else w.1 k t := by
  rw [sI_at]
  by_cases q : t = j
  · rw [if_pos ⟨rfl, q⟩, if_pos q]
  · rw [if_neg (fun z => q z.2), if_neg q]
/-- how often a thing is told as an end by the first p pipes -/
def pNo (ls : List Ln) (p : Nat) (t : Int) : Int := ((((pip ls).take p).filter (fun x => x.2.1 == t)).length : Int) + ((((pip ls).take p).filter (fun x => x.2.2.1 == t)).length : Int)
theorem pNo_len (ls : List Ln) (t : Int) : pNo ls (pip ls).length t = prt ls t := by
  unfold pNo prt
  rw [List.take_length]
theorem pNo_t (ls : List Ln) (x : Ln) (h : ¬ x.1 = 3) (p : Nat) (t : Int) : pNo (ls ++ [x]) p t = pNo ls p t := by
  unfold pNo
  rw [pip_t ls x h]
theorem pNo_p (ls : List Ln) (x : Ln) (h : x.1 = 3) (p : Nat) (t : Int) (hp : p ≤ (pip ls).length) : pNo (ls ++ [x]) p t = pNo ls p t := by
  unfold pNo
  rw [pip_p ls x h, List.take_append_of_le_length hp]
/-- the plant that stands -/
def PWs (w : MW) (ls : List Ln) : Prop := (w.1 127 4).toInt = ((thg ls).length : Int) ∧ (w.1 127 11).toInt = ((pip ls).length : Int) ∧ (∀ (t : Nat) (y : Ln), (thg ls)[t]? = some y → (w.1 163 t).toInt = mkd y ∧ (w.1 164 t).toInt = (if y.1 = 0 then y.2.1 else 0)) ∧ (∀ (p : Nat) (y : Ln), (pip ls)[p]? = some y → (w.1 169 p).toInt = y.2.2.2 ∧ (w.1 170 (2 * p)).toInt = y.2.1 ∧ (w.1 170 (2 * p + 1)).toInt = y.2.2.1 ∧ (w.1 171 (2 * p)).toInt = (if y.2.1 = -1 then -1 else pNo ls p y.2.1) ∧ (w.1 171 (2 * p + 1)).toInt = (if y.2.2.1 = -1 then -1 else pNo ls p y.2.2.1 + (if y.2.1 = y.2.2.1 then 1 else 0)))
/-- nothing is in it yet, and how many ports are taken -/
def PlZ (w : MW) (ls : List Ln) : Prop := (∀ (t : Nat), t < (thg ls).length → (w.1 168 t).toInt = prt ls t ∧ w.1 165 t = 0 ∧ w.1 166 t = 0 ∧ w.1 167 t = 0) ∧ (∀ p k : Nat, p < (pip ls).length → k < 200 → w.1 172 (200 * p + k) = 0) ∧ (∀ t : Nat, (thg ls).length ≤ t → prt ls t = 0)
theorem pws_fr {l : Pl} {w w' : MW} {ls : List Ln} (h : PWs w ls) (hF : FR l w w') (ho : off l [(127, some 4), (127, some 11), (163, none), (164, none), (169, none), (170, none), (171, none)] = true) : PWs w' ls := by
  have q : ∀ k j, hit [(127, some 4), (127, some 11), (163, none), (164, none), (169, none), (170, none), (171, none)] k j = true → w'.1 k j = w.1 k j := fun k j hk => (hF k j (off_hit ho hk)).1
  refine ⟨by rw [q 127 4 rfl]; exact h.1, by rw [q 127 11 rfl]; exact h.2.1, fun t y e => ?_, fun p y e => ?_⟩
  · rw [q 163 t rfl, q 164 t rfl]
    exact h.2.2.1 t y e
  · rw [q 169 p rfl, q 170 (2 * p) rfl, q 170 (2 * p + 1) rfl, q 171 (2 * p) rfl, q 171 (2 * p + 1) rfl]
    exact h.2.2.2 p y e
theorem plz_fr {l : Pl} {w w' : MW} {ls : List Ln} (h : PlZ w ls) (hF : FR l w w') (ho : off l [(165, none), (166, none), (167, none), (168, none), (172, none)] = true) : PlZ w' ls := by
  have q : ∀ k j, hit [(165, none), (166, none), (167, none), (168, none), (172, none)] k j = true → w'.1 k j = w.1 k j := fun k j hk => (hF k j (off_hit ho hk)).1
  refine ⟨fun t e => ?_, fun p k e1 e2 => ?_, h.2.2⟩
  · rw [q 165 t rfl, q 166 t rfl, q 167 t rfl, q 168 t rfl]
    exact h.1 t e
  · rw [q 172 _ rfl]
    exact h.2.1 p k e1 e2
theorem gd_ok {ls : List Ln} {x : Ln} (ok : okL ls x) (n : ¬ x.1 = 3) : gdT x := by
  rcases ok with o | o | o | o
  · exact Or.inl o.1
  · exact Or.inr (Or.inl o.1)
  · exact Or.inr (Or.inr ⟨o.1, o.2.1, o.2.2.1⟩)
  · exact absurd o.1 n
theorem mkd_b {x : Ln} (g : gdT x) : 0 ≤ mkd x ∧ mkd x ≤ 9 := by
  unfold mkd
  rcases g with g | g | g
  · rw [if_pos g]
    omega
  · rw [if_neg (by omega), if_pos g]
    omega
  · rw [if_neg (by omega), if_neg (by omega)]
    omega
theorem bt_53 {v : MW} {ls : List Ln} {x : Ln} {k m : Int32} {Q : MW → Prop} (hI : BND v) (h : PWs v ls) (hz : PlZ v ls) (nx : ¬ x.1 = 3) (ok : okL ls x) (ek : k.toInt = mkd x) (em : m.toInt = if x.1 = 0 then x.2.1 else 0) (m0 : 0 ≤ m.toInt) (m1 : m.toInt ≤ 100000) (hQ : ∀ v', BND v' → FR lbt v v' → PWs v' (ls ++ [x]) → PlZ v' (ls ++ [x]) → Q v') : q_Mo_build_53 m (v.1 127 4) (sI v 163 (v.1 127 4).toInt.toNat k) Q := by
  have n0 := h.1
  have lt := ok_t nx ok
  have kb := mkd_b (gd_ok ok nx)
  have b4 := bd_127_4 hI
  have g : 0 ≤ (v.1 127 4).toInt ∧ (v.1 127 4).toInt < 20 := ⟨b4.1, by omega⟩
  have e4 := ti_add2 (Eq.refl (v.1 127 4).toInt) i_1 (by omega) (by omega)
  have a4 : (sI v 163 (v.1 127 4).toInt.toNat k).1 127 4 = v.1 127 4 := sI_oth _ _ _ _ _ _ (by decide)
  have n : (v.1 127 4).toInt.toNat = (thg ls).length := by omega
  refine Eq.mpr (q_Mo_build_53.eq_1 _ _ _ _) ?_
  rw [a4]
  have B : BND (sI (sI (sI (sI (sI (sI (sI v 163 (v.1 127 4).toInt.toNat k) 164 (v.1 127 4).toInt.toNat m) 165 (v.1 127 4).toInt.toNat 0) 166 (v.1 127 4).toInt.toNat 0) 167 (v.1 127 4).toInt.toNat 0) 168 (v.1 127 4).toInt.toNat 0) 127 4 ((v.1 127 4) + (1 : Int32))) := wbd_127_4 (wbd_168 (wbd_167 (wbd_166 (wbd_165 (wbd_164 (wbd_163 hI _ (by omega) (by omega)) _ m0 m1) _) _ (by decide) (by decide)) _ (by decide) (by decide)) _) (by omega) (by omega)
  have F : FR lbt v (sI (sI (sI (sI (sI (sI (sI v 163 (v.1 127 4).toInt.toNat k) 164 (v.1 127 4).toInt.toNat m) 165 (v.1 127 4).toInt.toNat 0) 166 (v.1 127 4).toInt.toNat 0) 167 (v.1 127 4).toInt.toNat 0) 168 (v.1 127 4).toInt.toNat 0) 127 4 ((v.1 127 4) + (1 : Int32))) := FR.I (FR.I (FR.I (FR.I (FR.I (FR.I (FR.I (FR.refl _ v) rfl) rfl) rfl) rfl) rfl) rfl) rfl
  have f4 : ((sI (sI (sI (sI (sI (sI (sI v 163 (v.1 127 4).toInt.toNat k) 164 (v.1 127 4).toInt.toNat m) 165 (v.1 127 4).toInt.toNat 0) 166 (v.1 127 4).toInt.toNat 0) 167 (v.1 127 4).toInt.toNat 0) 168 (v.1 127 4).toInt.toNat 0) 127 4 ((v.1 127 4) + (1 : Int32))).1 127 4).toInt = (v.1 127 4).toInt + 1 := by rw [sI_same]; exact e4
  have o1 : ∀ (u : MW) (c j t : Nat) (y : Int32) (d : Nat), d ≠ c → (sI u c j y).1 d t = u.1 d t := fun u c j t y d hd => sI_oth _ _ _ _ _ _ hd
  have f163 : ∀ t, (sI (sI (sI (sI (sI (sI (sI v 163 (v.1 127 4).toInt.toNat k) 164 (v.1 127 4).toInt.toNat m) 165 (v.1 127 4).toInt.toNat 0) 166 (v.1 127 4).toInt.toNat 0) 167 (v.1 127 4).toInt.toNat 0) 168 (v.1 127 4).toInt.toNat 0) 127 4 ((v.1 127 4) + (1 : Int32))).1 163 t = if t = (thg ls).length then k else v.1 163 t := fun t => by
    rw [o1 _ _ _ _ _ _ (by decide), o1 _ _ _ _ _ _ (by decide), o1 _ _ _ _ _ _ (by decide), o1 _ _ _ _ _ _ (by decide), o1 _ _ _ _ _ _ (by decide), o1 _ _ _ _ _ _ (by decide), sI_if, n]
  have f164 : ∀ t, (sI (sI (sI (sI (sI (sI (sI v 163 (v.1 127 4).toInt.toNat k) 164 (v.1 127 4).toInt.toNat m) 165 (v.1 127 4).toInt.toNat 0) 166 (v.1 127 4).toInt.toNat 0) 167 (v.1 127 4).toInt.toNat 0) 168 (v.1 127 4).toInt.toNat 0) 127 4 ((v.1 127 4) + (1 : Int32))).1 164 t = if t = (thg ls).length then m else v.1 164 t := fun t => by
    rw [o1 _ _ _ _ _ _ (by decide), o1 _ _ _ _ _ _ (by decide), o1 _ _ _ _ _ _ (by decide), o1 _ _ _ _ _ _ (by decide), o1 _ _ _ _ _ _ (by decide), sI_if, o1 _ _ _ _ _ _ (by decide), n]
  have f165 : ∀ t, (sI (sI (sI (sI (sI (sI (sI v 163 (v.1 127 4).toInt.toNat k) 164 (v.1 127 4).toInt.toNat m) 165 (v.1 127 4).toInt.toNat 0) 166 (v.1 127 4).toInt.toNat 0) 167 (v.1 127 4).toInt.toNat 0) 168 (v.1 127 4).toInt.toNat 0) 127 4 ((v.1 127 4) + (1 : Int32))).1 165 t = if t = (thg ls).length then 0 else v.1 165 t := fun t => by
    rw [o1 _ _ _ _ _ _ (by decide), o1 _ _ _ _ _ _ (by decide), o1 _ _ _ _ _ _ (by decide), o1 _ _ _ _ _ _ (by decide), sI_if, o1 _ _ _ _ _ _ (by decide), o1 _ _ _ _ _ _ (by decide), n]
  have f166 : ∀ t, (sI (sI (sI (sI (sI (sI (sI v 163 (v.1 127 4).toInt.toNat k) 164 (v.1 127 4).toInt.toNat m) 165 (v.1 127 4).toInt.toNat 0) 166 (v.1 127 4).toInt.toNat 0) 167 (v.1 127 4).toInt.toNat 0) 168 (v.1 127 4).toInt.toNat 0) 127 4 ((v.1 127 4) + (1 : Int32))).1 166 t = if t = (thg ls).length then 0 else v.1 166 t := fun t => by
    rw [o1 _ _ _ _ _ _ (by decide), o1 _ _ _ _ _ _ (by decide), o1 _ _ _ _ _ _ (by decide), sI_if, o1 _ _ _ _ _ _ (by decide), o1 _ _ _ _ _ _ (by decide), o1 _ _ _ _ _ _ (by decide), n]
  have f167 : ∀ t, (sI (sI (sI (sI (sI (sI (sI v 163 (v.1 127 4).toInt.toNat k) 164 (v.1 127 4).toInt.toNat m) 165 (v.1 127 4).toInt.toNat 0) 166 (v.1 127 4).toInt.toNat 0) 167 (v.1 127 4).toInt.toNat 0) 168 (v.1 127 4).toInt.toNat 0) 127 4 ((v.1 127 4) + (1 : Int32))).1 167 t = if t = (thg ls).length then 0 else v.1 167 t := fun t => by
    rw [o1 _ _ _ _ _ _ (by decide), o1 _ _ _ _ _ _ (by decide), sI_if, o1 _ _ _ _ _ _ (by decide), o1 _ _ _ _ _ _ (by decide), o1 _ _ _ _ _ _ (by decide), o1 _ _ _ _ _ _ (by decide), n]
  have f168 : ∀ t, (sI (sI (sI (sI (sI (sI (sI v 163 (v.1 127 4).toInt.toNat k) 164 (v.1 127 4).toInt.toNat m) 165 (v.1 127 4).toInt.toNat 0) 166 (v.1 127 4).toInt.toNat 0) 167 (v.1 127 4).toInt.toNat 0) 168 (v.1 127 4).toInt.toNat 0) 127 4 ((v.1 127 4) + (1 : Int32))).1 168 t = if t = (thg ls).length then 0 else v.1 168 t := fun t => by
    rw [o1 _ _ _ _ _ _ (by decide), sI_if, o1 _ _ _ _ _ _ (by decide), o1 _ _ _ _ _ _ (by decide), o1 _ _ _ _ _ _ (by decide), o1 _ _ _ _ _ _ (by decide), o1 _ _ _ _ _ _ (by decide), n]
  refine ⟨g, g, g, g, g, ?_⟩
  generalize (sI (sI (sI (sI (sI (sI (sI v 163 (v.1 127 4).toInt.toNat k) 164 (v.1 127 4).toInt.toNat m) 165 (v.1 127 4).toInt.toNat 0) 166 (v.1 127 4).toInt.toNat 0) 167 (v.1 127 4).toInt.toNat 0) 168 (v.1 127 4).toInt.toNat 0) 127 4 ((v.1 127 4) + (1 : Int32))) = W at *
  have l1 : (thg (ls ++ [x])).length = (thg ls).length + 1 := by
    rw [thg_t ls x nx, List.length_append]
    rfl
  refine hQ W B F ⟨?_, ?_, fun t y e => ?_, fun p y e => ?_⟩ ⟨fun t ht => ?_, fun p k hp hk => ?_, fun t ht => ?_⟩
  · rw [f4, l1]
    omega
  · rw [(F 127 11 rfl).1, pip_t ls x nx]
    exact h.2.1
  · rw [f163, f164]
    rw [thg_t ls x nx] at e
    by_cases q : t = (thg ls).length
    · rw [if_pos q, if_pos q]
      rw [q, List.getElem?_append_right (Nat.le_refl _), Nat.sub_self] at e
      have ey : x = y := Option.some.inj e
      rw [← ey]
      exact ⟨ek, em⟩
    · rw [if_neg q, if_neg q]
      have l2 := (List.getElem?_eq_some_iff.mp e).1
      rw [← thg_t ls x nx, l1] at l2
      rw [List.getElem?_append_left (by omega)] at e
      exact h.2.2.1 t y e
  · rw [pip_t ls x nx] at e
    rw [(F 169 p rfl).1, (F 170 _ rfl).1, (F 170 _ rfl).1, (F 171 _ rfl).1, (F 171 _ rfl).1, pNo_t ls x nx, pNo_t ls x nx]
    exact h.2.2.2 p y e
  · rw [l1] at ht
    rw [f165, f166, f167, f168, prt_t ls x nx]
    by_cases q : t = (thg ls).length
    · rw [if_pos q, if_pos q, if_pos q, if_pos q]
      refine ⟨?_, rfl, rfl, rfl⟩
      rw [i_0, hz.2.2 t (by omega)]
    · rw [if_neg q, if_neg q, if_neg q, if_neg q]
      exact hz.1 t (by omega)
  · rw [pip_t ls x nx] at hp
    rw [(F 172 _ rfl).1]
    exact hz.2.1 p k hp hk
  · rw [l1] at ht
    rw [prt_t ls x nx]
    exact hz.2.2 t (by omega)
theorem bx_t {v : MW} {ls : List Ln} {r : Int32} {x : Ln} {Q : MW → Prop} (hI : BND v) (h : PWs v ls) (hz : PlZ v ls) (hx : LnW v r x) (r3 : ¬ r.toInt = 3) (ok : okL ls x) (hQ : ∀ v', BND v' → FR lbt v v' → PWs v' (ls ++ [x]) → PlZ v' (ls ++ [x]) → Q v') : p_Mo_build v r Q := by
  have nx : ¬ x.1 = 3 := by
    rcases hx with q | q | q | q
    · omega
    · omega
    · omega
    · exact absurd q.1 r3
  have n0 := h.1
  have lt := ok_t nx ok
  have b4 := bd_127_4 hI
  have g : 0 ≤ (v.1 127 4).toInt ∧ (v.1 127 4).toInt < 20 := ⟨b4.1, by omega⟩
  have a4 : ∀ k, (sI v 163 (v.1 127 4).toInt.toNat k).1 127 4 = v.1 127 4 := fun k => sI_oth _ _ _ _ _ _ (by decide)
  have a8 : ∀ k, (sI v 163 (v.1 127 4).toInt.toNat k).1 178 0 = v.1 178 0 := fun k => sI_oth _ _ _ _ _ _ (by decide)
  have f30 : ∀ k : Int32, k.toInt = mkd x → q_Mo_build_30 r k (v.1 127 4) v Q := fun k ek => by
    refine Eq.mpr (q_Mo_build_30.eq_1 _ _ _ _ _) ⟨g, fun c => bt_53 hI h hz nx ok ek ?_ (by decide) (by decide) hQ, fun c => ?_⟩
    · rw [if_neg ?_]
      · exact i_0
      · rcases hx with q | q | q | q
        · exact absurd q.1 c
        · omega
        · omega
        · omega
    · have c := Classical.not_not.mp c
      have q : x.1 = 0 ∧ x.2.1 = (v.1 178 0).toInt := by
        rcases hx with q | q | q | q
        · exact q.2
        · omega
        · omega
        · omega
      have o : 1 ≤ x.2.1 ∧ x.2.1 ≤ 100000 := by
        rcases ok with o | o | o | o
        · exact ⟨o.2.1, o.2.2.1⟩
        · omega
        · omega
        · omega
      exact bt_53 hI h hz nx ok ek (by rw [if_pos q.1]; omega) (by omega) (by omega) hQ
  refine Eq.mpr (p_Mo_build.eq_1 _ _ _) ⟨fun c => absurd c r3, fun _ => ⟨fun c => f30 r ?_, fun c => f30 _ ?_⟩⟩
  · unfold mkd
    rcases hx with q | q | q | q
    · rw [if_pos q.2.1]
      exact q.1
    · rw [if_neg (by omega), if_pos q.2]
      exact q.1
    · exact absurd q.1 c
    · exact absurd q.1 r3
  · have c := Classical.not_not.mp c
    have b := bd_178 hI 0
    have e2 := ti_add2 (by decide : ((2 : Int32)).toInt = 2) (Eq.refl (v.1 178 0).toInt) (by omega) (by omega)
    rw [e2]
    unfold mkd
    rcases hx with q | q | q | q
    · omega
    · omega
    · rw [if_neg (by omega), if_neg (by omega), q.2.2]
    · omega
