/-! fill answers alike, and the house stays one -/
def lRf : Pl := [(127, some 4), (127, some 11), (127, some 26), (127, some 78), (163, none), (164, none), (165, none), (166, none), (169, none), (172, none), (173, none), (174, none), (176, none), (177, none), (182, none), (183, none), (185, none), (186, none)]
/-- the reference's cells did not change: the relation to the class's cells of before stands -/
theorem rf_k {u w : MW} (h : Ag lRf u w) (s : HSk u) (t : TBv u u) : SKl u w ∧ SKv u w ∧ TBv u w := by
  have m1 : tM w = tM u := by
    unfold tM
    rw [h 127 4 rfl]
  have m2 : pM w = pM u := by
    unfold pM
    rw [h 127 11 rfl]
  have m4 : tkM w = tkM u := by
    funext y
    unfold tkM
    rw [h 163 _ rfl]
  refine ⟨?_, ?_, ?_⟩
  · unfold SKl
    rw [m1, m2, m4]
    refine ⟨fun y hy => ?_, fun p hp => ?_⟩
    · rw [h 165 y rfl, h 166 y rfl]
      exact s.1.1 y hy
    · rw [h 169 p rfl]
      rcases s.1.2 p hp with ⟨a, b⟩ | ⟨a, b, k, hk, c⟩
      · exact Or.inl ⟨a, fun k hk => by rw [h 172 _ rfl]; exact b k hk⟩
      · exact Or.inr ⟨a, fun k hk => by rw [h 172 _ rfl]; exact b k hk, k, hk, by rw [h 172 _ rfl]; exact c⟩
  · unfold SKv
    rw [m1, m2, h 127 78 rfl]
    refine ⟨fun x hx => ?_, fun x l hx h1 h2 => ?_, s.2.1.2.2⟩
    · rw [h 173 x rfl]
      exact s.2.1.1 x hx
    · rw [h 174 _ rfl]
      exact s.2.1.2.1 x l hx h1 h2
  · refine ⟨fun i j h1 h2 h3 h4 => ?_, fun l h1 h2 => ?_⟩
    · rw [h 176 _ rfl]
      exact t.1 i j h1 h2 h3 h4
    · rw [h 177 _ rfl]
      exact t.2 l h1 h2
/-- both isSafe of fill -/
theorem fl_two {u u1 wl w15 w14 : MW} {a b : Int32} {c : Int64} {r r' : Int32} (hB : BND u) (hr : HRq u) (pre : PreF u a b c) (F1 : FR l_Bh_fill u u1) (e17 : ∀ j, ¬ j = a.toInt.toNat → u1.1 17 j = u.1 17 j) (lk : LkP u u1 (fun k x => (k : Int) < (u1.1 127 26).toInt ∧ wnt u1 k x) wl) (sc : SfC (sI u 17 a.toInt.toNat b) r w15) (sm : SfM (sI wl 194 a.toInt.toNat b) r' w14) : (r = 1 ∧ r' = 1 ∧ w14.1 = (sI wl 194 a.toInt.toNat b).1) ∨ (r = 0 ∧ r' = 0 ∧ ∃ f x y z : Int32, w14.1 = (dgW (sI wl 194 a.toInt.toNat b) f x y z).1) := by
  have T := hb_T hB
  have P := hb_P hB
  have o := lk.1
  have bpos : ¬ b.toInt = 0 := by have := pre.2.1; omega
  have a0 := pre.1.1
  have a1 := pre.1.2.1
  have rd : ∀ k j, hit [(17, none), (18, none), (23, none), (42, some 6), (42, some 7), (42, some 8), (42, some 9), (43, none), (44, none), (45, none), (46, none), (194, none)] k j = false → (sI (sI wl 194 a.toInt.toNat b) 17 a.toInt.toNat b).1 k j = u.1 k j := fun k j hk => by
    have h1 : ¬ k = 17 := fun e => by rw [e] at hk; cases hk
    have h2 : ¬ k = 194 := fun e => by rw [e] at hk; cases hk
    have h3 : hit l_Bh_fill k j = false := by
      cases q : hit l_Bh_fill k j with
      | false => rfl
      | true => rw [sub_hit (show sub l_Bh_fill [(17, none), (18, none), (23, none), (42, some 6), (42, some 7), (42, some 8), (42, some 9), (43, none), (44, none), (45, none), (46, none), (194, none)] = true by decide) q] at hk; cases hk
    rw [sI_oth _ _ _ _ _ _ h1, sI_oth _ _ _ _ _ _ h2, o.2 k j h2]
    exact (F1 k j h3).1
  have r17 : ∀ j, (sI (sI wl 194 a.toInt.toNat b) 17 a.toInt.toNat b).1 17 j = if j = a.toInt.toNat then b else u.1 17 j := fun j => by
    rw [sI_if]
    by_cases q : j = a.toInt.toNat
    · rw [if_pos q, if_pos q]
    · rw [if_neg q, if_neg q, sI_oth _ _ _ _ _ _ (by decide), o.2 17 j (by decide)]
      exact e17 j q
  have r194 : ∀ j, (sI (sI wl 194 a.toInt.toNat b) 17 a.toInt.toNat b).1 194 j = if j = a.toInt.toNat then b else wl.1 194 j := fun j => by
    rw [sI_oth _ _ _ _ _ _ (by decide), sI_if]
  have hM : ∀ k j, mS k = true → (sI (sI wl 194 a.toInt.toNat b) 17 a.toInt.toNat b).1 k j = (sI wl 194 a.toInt.toNat b).1 k j := fun k j hk => sI_oth _ _ _ _ _ _ (fun e => by rw [e] at hk; cases hk)
  have hC : ∀ k j, cS k = true → (sI (sI wl 194 a.toInt.toNat b) 17 a.toInt.toNat b).1 k j = (sI u 17 a.toInt.toNat b).1 k j := fun k j hk => by
    by_cases q : k = 17
    · rw [q, r17, sI_if]
    · rw [sI_oth u _ _ _ _ _ q]
      refine rd k j ?_
      unfold cS at hk
      simp only [Bool.or_eq_true, beq_iff_eq] at hk
      rcases hk with ((((((((((((((e | e) | e) | e) | e) | e) | e) | e) | e) | e) | e) | e) | e) | e) | e) <;> first | (rw [e]; rfl) | (exact absurd e q)
  have n26 : u1.1 127 26 = u.1 127 26 := (F1 127 26 rfl).1
  have ag : ∀ m : Pl, off [(17, none), (18, none), (23, none), (42, some 6), (42, some 7), (42, some 8), (42, some 9), (43, none), (44, none), (45, none), (46, none), (194, none)] m = true → Ag m u (sI (sI wl 194 a.toInt.toNat b) 17 a.toInt.toNat b) := fun m hm k j hk => rd k j (off_hit hm hk)
  have apl : Ag lPL u (sI (sI wl 194 a.toInt.toNat b) 17 a.toInt.toNat b) := ag _ rfl
  have hp := HPl_ag apl hr.1
  have ht := HTb_ag (ag lTq rfl) hr.2.1
  have tm := tM_ag apl
  have hw := HWy_ag apl (ag lWy rfl) (fun p => by rw [r17, if_neg (by omega)]) hr.2.2.2
  have wn : ∀ k x, wnt (sI (sI wl 194 a.toInt.toNat b) 17 a.toInt.toNat b) k x ↔ wnt u1 k x := fun k x => by
    have z1 : ∀ c j, c = 182 ∨ c = 185 ∨ c = 186 → (sI (sI wl 194 a.toInt.toNat b) 17 a.toInt.toNat b).1 c j = u1.1 c j := fun c j hc => by
      rw [sI_oth _ _ _ _ _ _ (by omega), sI_oth _ _ _ _ _ _ (by omega)]
      exact o.2 c j (by omega)
    have z2 : tM (sI (sI wl 194 a.toInt.toNat b) 17 a.toInt.toNat b) = tM u1 := by
      rw [tm.1]
      unfold tM
      rw [(F1 127 4 rfl).1]
    unfold wnt
    rw [z2, z1 182 k (by omega), z1 185 k (by omega)]
    constructor
    · intro q
      rcases q with q | ⟨i, q1, q2⟩
      · exact Or.inl q
      · exact Or.inr ⟨i, q1, by rw [← z1 186 _ (by omega)]; exact q2⟩
    · intro q
      rcases q with q | ⟨i, q1, q2⟩
      · exact Or.inl q
      · exact Or.inr ⟨i, q1, by rw [z1 186 _ (by omega)]; exact q2⟩
  have nn : nwy (sI (sI wl 194 a.toInt.toNat b) 17 a.toInt.toNat b) = nwy u := by
    unfold nwy
    rw [rd 127 26 rfl]
  have n0 := w_n hr.2.2.2.1
  have ins : INs (sI (sI wl 194 a.toInt.toNat b) 17 a.toInt.toNat b) := by
    intro x hx
    rw [tm.1, tm.2.1] at hx
    rw [r17, r194, nn]
    by_cases q : x = a.toInt.toNat
    · rw [if_pos q, if_pos q]
      exact Or.inl ⟨bpos, rfl⟩
    · rw [if_neg q, if_neg q]
      have e1 : tM u1 = tM u := by
        unfold tM
        rw [(F1 127 4 rfl).1]
      have e2 : pM u1 = pM u := by
        unfold pM
        rw [(F1 127 11 rfl).1]
      rcases lk.2 x (by rw [e1, e2]; exact hx) with l | ⟨l1, ⟨l2, l3⟩ | ⟨k, l2, l3⟩⟩
      · exact Or.inl l
      · refine Or.inr ⟨l1, Or.inl ⟨l2, fun k hk w2 => l3 k ⟨by rw [n26]; omega, (wn k x).mp w2⟩⟩⟩
      · refine Or.inr ⟨l1, Or.inr ⟨k, ?_, (wn k x).mpr l2.2, ?_⟩⟩
        · have := l2.1
          rw [n26] at this
          omega
        · rw [l3, rd 183 k rfl]
          exact (F1 183 k rfl).1
  have sr : SRr (sI (sI wl 194 a.toInt.toNat b) 17 a.toInt.toNat b) := sr_x (by rw [tm.1]; exact T) (by rw [tm.2.1]; exact P) hp.1.1 hp.1.2.1 (fun x => by
    rw [r17]
    by_cases q : x = a.toInt.toNat
    · rw [if_pos q]
      have := pre.2.1
      omega
    · rw [if_neg q]
      exact bd_17 hB x) hw.1 hw.2.1 hw.2.2.1 hw.2.2.2.1 hw.2.2.2.2.2 ins
  have pb : PB (sI (sI wl 194 a.toInt.toNat b) 17 a.toInt.toNat b) := by
    have B := PB_b hB
    have tc := tC_ag apl
    unfold PB
    rw [tc.1, tc.2.1]
    refine ⟨B.1, B.2.1, fun t h => ?_, fun t h => ?_, fun e => ?_⟩
    · rw [rd 9 t rfl]
      exact B.2.2.1 t h
    · rw [rd 16 t rfl]
      exact B.2.2.2.1 t h
    · rw [rd 14 e rfl]
      exact B.2.2.2.2 e
  have res := sf_two hC hM hp.1 pb hp.2.1 (fun t => by rw [rd 11 t rfl]; exact (bd_11 hB t).1) sr ht.2.2.1 ht.2.1 sc sm
  rcases res with q | ⟨q1, q2, f, x, y, z, q3, _⟩
  · exact Or.inl ⟨q.1, q.2.1, q.2.2.2⟩
  · exact Or.inr ⟨q1, q2, f, x, y, z, q3⟩
