/-! the class's cells of one world, the reference's of another -/
def mx (v w : MW) : MW := (fun c j => if c < 127 then v.1 c j else w.1 c j, fun c j => if c < 127 then v.2.1 c j else w.2.1 c j, fun c j => if c < 127 then v.2.2 c j else w.2.2 c j)
theorem mx_c (v w : MW) {c : Nat} (h : c < 127) (j : Nat) : (mx v w).1 c j = v.1 c j := if_pos h
theorem mx_m (v w : MW) {c : Nat} (h : ¬ c < 127) (j : Nat) : (mx v w).1 c j = w.1 c j := if_neg h
theorem mx_j (v w : MW) {c : Nat} (h : c < 127) (j : Nat) : (mx v w).2.1 c j = v.2.1 c j := if_pos h
def loL (l : Pl) : Bool := l.all fun c => Nat.blt c.1 127
def hiL (l : Pl) : Bool := l.all fun c => !Nat.blt c.1 127
theorem hit_in {l : Pl} {k j : Nat} (h : hit l k j = true) : ∃ c, c ∈ l ∧ c.1 = k := by
  unfold hit at h
  rw [List.any_eq_true] at h
  obtain ⟨c, hc, e⟩ := h
  rw [Bool.and_eq_true, beq_iff_eq] at e
  exact ⟨c, hc, e.1⟩
theorem blt_i {a b : Nat} : Nat.blt a b = true ↔ a < b := by
  constructor
  · intro h
    exact Nat.le_of_ble_eq_true h
  · intro h
    exact Nat.ble_eq_true_of_le h
theorem lo_lt {l : Pl} (h : loL l = true) {k j : Nat} (hk : hit l k j = true) : k < 127 := by
  obtain ⟨c, hc, e⟩ := hit_in hk
  have := List.all_eq_true.mp h c hc
  rw [← e]
  exact blt_i.mp this
theorem hi_ge {l : Pl} (h : hiL l = true) {k j : Nat} (hk : hit l k j = true) : ¬ k < 127 := by
  obtain ⟨c, hc, e⟩ := hit_in hk
  have := List.all_eq_true.mp h c hc
  rw [← e]
  intro q
  rw [blt_i.mpr q] at this
  cases this
theorem ag_t {l : Pl} {a b c : MW} (h : Ag l a b) (g : Ag l b c) : Ag l a c := fun k j hk => (g k j hk).trans (h k j hk)
theorem ag_s {l : Pl} {a b : MW} (h : Ag l a b) : Ag l b a := fun k j hk => (h k j hk).symm
theorem ag_i {l : Pl} {w : MW} {c i : Nat} {x : Int32} (h : off [(c, none)] l = true) : Ag l w (sI w c i x) := fun k j hk => by
  have n : ¬ k = c := fun e => by
    have q := off_hit h hk
    have q2 : hit [(c, none)] k j = true := by
      unfold hit
      rw [List.any_eq_true]
      exact ⟨(c, none), List.mem_cons_self, by rw [e]; simp⟩
    rw [q2] at q
    cases q
  exact sI_oth _ _ _ _ _ _ n
theorem ag_o {l : Pl} {w w' : MW} {c : Nat} (o : oI c w w') (h : off [(c, none)] l = true) : Ag l w w' := fun k j hk => by
  have n : ¬ k = c := fun e => by
    have q := off_hit h hk
    have q2 : hit [(c, none)] k j = true := by
      unfold hit
      rw [List.any_eq_true]
      exact ⟨(c, none), List.mem_cons_self, by rw [e]; simp⟩
    rw [q2] at q
    cases q
  exact o.2 k j n
theorem mx_ac {l : Pl} (v w : MW) (h : loL l = true) : Ag l (mx v w) v := fun _ j hk => (mx_c v w (lo_lt h hk) j).symm
theorem mx_am {l : Pl} (v w : MW) (h : hiL l = true) : Ag l (mx v w) w := fun _ j hk => (mx_m v w (hi_ge h hk) j).symm
/-- two worlds that agree, class and reference apart -/
theorem mx_ag {l : Pl} {v v' w w' : MW} (h : ∀ k j, hit l k j = true → (k < 127 → v'.1 k j = v.1 k j) ∧ (¬ k < 127 → w'.1 k j = w.1 k j)) : Ag l (mx v w) (mx v' w') := fun k j hk => by
  by_cases q : k < 127
  · rw [mx_c _ _ q, mx_c _ _ q]
    exact (h k j hk).1 q
  · rw [mx_m _ _ q, mx_m _ _ q]
    exact (h k j hk).2 q
/-- the plants alone, positions aside -/
def lPc : Pl := [(8, some 0), (8, some 1), (9, none), (11, none), (13, none), (14, none), (15, none)]
def lPm : Pl := [(127, some 4), (127, some 11), (163, none), (170, none), (171, none)]
def lP0 : Pl := [(8, some 0), (8, some 1), (9, none), (11, none), (13, none), (14, none), (15, none), (127, some 4), (127, some 11), (163, none), (170, none), (171, none)]
theorem tC_c {w w' : MW} (h : Ag lPc w w') : tC w' = tC w ∧ pC w' = pC w ∧ atC w' = atC w ∧ tkC w' = tkC w ∧ poC w' = poC w ∧ kC w' = kC w := by
  refine ⟨?_, ?_, ?_, ?_, ?_, ?_⟩
  · unfold tC
    rw [h 8 0 rfl]
  · unfold pC
    rw [h 8 1 rfl]
  · funext e
    unfold atC
    rw [h 13 e rfl]
  · funext t
    unfold tkC
    rw [h 9 _ rfl]
  · funext e
    unfold poC
    rw [h 14 e rfl]
  · funext t
    unfold kC
    rw [h 9 t rfl]
theorem tM_m {w w' : MW} (h : Ag lPm w w') : tM w' = tM w ∧ pM w' = pM w ∧ atM w' = atM w ∧ tkM w' = tkM w := by
  refine ⟨?_, ?_, ?_, ?_⟩
  · unfold tM
    rw [h 127 4 rfl]
  · unfold pM
    rw [h 127 11 rfl]
  · funext e
    unfold atM
    rw [h 170 e rfl]
  · funext t
    unfold tkM
    rw [h 163 _ rfl]
theorem PX_d {w w' : MW} (h : Ag lPc w w') (s : PX w) : PX w' := by
  obtain ⟨c1, c2, c3, c4, c5, _⟩ := tC_c h
  unfold PX
  rw [c1, c2, c3, c4, c5]
  refine ⟨fun e he => ⟨(s.1 e he).1, fun a b => ?_⟩, fun t j ht hj h0 => ?_⟩
  · rw [h 15 _ rfl]
    exact (s.1 e he).2 a b
  · rw [h 15 _ rfl] at h0 ⊢
    exact s.2 t j ht hj h0
theorem PY_c {w w' : MW} (h : Ag lPc w w') (s : PY w) : PY w' := by
  obtain ⟨c1, c2, c3, c4, c5, _⟩ := tC_c h
  unfold PY
  rw [c2, c3, c4, c5]
  intro e he a b
  rw [h 11 _ rfl]
  exact s e he a b
theorem HPl_p {w w' : MW} (h : Ag lP0 w w') (e : ∀ t : Nat, (t : Int) < tM w → w'.1 16 t = w'.1 167 t) (s : HPl w) : HPl w' := by
  have hc : Ag lPc w w' := ag_m h rfl
  obtain ⟨c1, c2, c3, c4, c5, c6⟩ := tC_c hc
  obtain ⟨m1, m2, m3, m4⟩ := tM_m (ag_m h rfl)
  obtain ⟨s1, s2, s3, s4⟩ := s
  refine ⟨?_, PX_d hc s2, PY_c hc s3, ?_⟩
  · unfold PLq
    rw [c1, c2, c3, c5, c6, m1, m2, m3, m4]
    refine ⟨s1.1, s1.2.1, fun t ht => ?_, fun e he => ?_⟩
    · rw [h 163 t rfl]
      exact ⟨(s1.2.2.1 t ht).1, (s1.2.2.1 t ht).2.1, e t ht⟩
    · rw [h 14 e rfl, h 171 e rfl]
      exact s1.2.2.2 e he
  · unfold PMq
    rw [c2, c3, c4, c5]
    exact s4
theorem HSk_p {w w' : MW} (hp : Ag lPm w w') (h : Ag lSk w w') (h20 : ∀ j, w'.2.1 20 j = w.2.1 20 j) (s : HSk w) : HSk w' := by
  obtain ⟨m1, m2, m3, m4⟩ := tM_m hp
  obtain ⟨s1, s2, s3, s4, s5⟩ := s
  refine ⟨?_, ?_, ?_, ?_, ?_⟩
  · unfold SKl
    rw [m1, m2, m4]
    refine ⟨fun t ht => ?_, fun p hp' => ?_⟩
    · rw [h 17 t rfl, h 165 t rfl, h 166 t rfl]
      exact s1.1 t ht
    · rw [h 17 _ rfl, h 169 p rfl]
      rcases s1.2 p hp' with ⟨a, b⟩ | ⟨a, b, k, hk, c⟩
      · exact Or.inl ⟨a, fun k hk => by rw [h 172 _ rfl]; exact b k hk⟩
      · exact Or.inr ⟨a, fun k hk => by rw [h 172 _ rfl]; exact b k hk, k, hk, by rw [h 172 _ rfl]; exact c⟩
  · unfold SKv
    rw [m1, m2, h 7 1 rfl, h 127 78 rfl]
    refine ⟨fun x hx => ?_, fun x l hx h1 h2 => ?_, s2.2.2⟩
    · rw [h 17 x rfl, h 173 x rfl, h 19 x rfl]
      exact s2.1 x hx
    · rw [h 23 _ rfl, h 174 _ rfl]
      exact s2.2.1 x l hx h1 h2
  · unfold SKt
    rw [m1, m4]
    intro t ht tk
    rw [h 18 t rfl, h 165 t rfl, h 10 t rfl, h 164 t rfl, h 166 t rfl]
    exact s3 t ht tk
  · unfold SKp
    rw [m1, m2]
    intro p hp'
    have q := s4 p hp'
    have ec : ∀ c, cel w' p c = cel w p c := fun c => by
      unfold cel
      rw [h20]
    have ef : (fun k => decide (¬ w'.1 172 (200 * p + k) = 0)) = fun k => decide (¬ w.1 172 (200 * p + k) = 0) := by
      funext k
      rw [h 172 _ rfl]
    rw [h 12 p rfl, h 169 p rfl, h 21 p rfl, h 18 _ rfl, ef]
    refine ⟨q.1, q.2.1, q.2.2.1, fun k hk => ?_, q.2.2.2.2⟩
    rw [ec, h 172 _ rfl]
    exact q.2.2.2.1 k hk
  · rw [m1, m2]
    intro x l hx h1 h2 n
    rw [h 17 x rfl] at n
    rw [h 23 _ rfl]
    exact s5 x l hx h1 h2 n
theorem HWy_q {w w' : MW} (hp : Ag lPm w w') (h : Ag lWy w w') (h17 : ∀ p : Nat, w'.1 17 ((tM w).toNat + p) = w.1 17 ((tM w).toNat + p) ∨ w'.1 17 ((tM w).toNat + p) = 0) (hh : HP w') (s : HWy w) : HWy w' := by
  obtain ⟨m1, m2, m3, m4⟩ := tM_m hp
  obtain ⟨s1, s2, s3, s4, s5, s6⟩ := s
  have en : nwy w' = nwy w := by
    unfold nwy
    rw [h 127 26 rfl]
  have el : wln w' = wln w := by
    funext k
    unfold wln
    rw [h 185 k rfl]
  have ee : ent w' = ent w := by
    funext k i
    unfold ent
    rw [h 186 _ rfl]
  have eo : onN w' = onN w := by
    funext p
    unfold onN
    rw [en, el, ee]
  have eh : ∀ t, hldB w' t = hldB w t := fun t => by
    funext k
    unfold hldB
    rw [h 187 _ rfl]
  refine ⟨?_, ?_, ?_, ?_, ?_, ?_⟩
  · unfold WRa
    rw [en, m1, m4, h 26 1 rfl, h 127 26 rfl]
    refine ⟨s1.1, s1.2.1, s1.2.2.1, fun k hk => ?_⟩
    rw [h 27 k rfl, h 28 k rfl, h 29 k rfl, h 30 k rfl, h 31 k rfl, h 181 k rfl, h 182 k rfl, h 183 k rfl, h 184 k rfl, h 185 k rfl]
    exact s1.2.2.2 k hk
  · unfold WRb
    rw [en, el, ee, m2]
    intro k hk
    rw [h 32 k rfl, h 33 k rfl]
    refine ⟨fun i hi => ?_, (s2 k hk).2⟩
    rw [h 186 _ rfl, h 34 _ rfl, h 35 _ rfl]
    exact (s2 k hk).1 i hi
  · unfold WRc
    rw [en, el, ee, m2, eo]
    refine ⟨fun p hp' => ?_, s3.2⟩
    rw [h 36 p rfl]
    exact s3.1 p hp'
  · unfold WRd
    rw [en, el, ee, m3, m4]
    intro k hk
    rw [h 181 k rfl, h 182 k rfl]
    exact s4 k hk
  · unfold WRe
    rw [en, el, ee, m1, m3]
    refine ⟨fun k t hk ht => ?_, hh, fun t ht => ?_⟩
    · rw [h 187 _ rfl]
      exact s5.1 k t hk ht
    · rw [h 37 t rfl, eh]
      exact s5.2.2 t ht
  · unfold WRf
    rw [en, el, ee, m1]
    intro k i hk hi
    rw [h 183 k rfl]
    rcases h17 (ent w k i / 2) with q | q
    · rw [q]
      exact s6 k i hk hi
    · exact Or.inl q
theorem HWy_p {w w' : MW} (hp : Ag lPm w w') (h : Ag lWy w w') (h17 : ∀ p : Nat, w'.1 17 ((tM w).toNat + p) = w.1 17 ((tM w).toNat + p)) (hh : HP w') (s : HWy w) : HWy w' := HWy_q hp h (fun p => Or.inl (h17 p)) hh s
/-- the insides, told of a world that agrees -/
def lIn : Pl := [(127, some 4), (127, some 11), (127, some 26), (182, none), (183, none), (185, none), (186, none)]
theorem wnt_a {z Z : MW} (ag : Ag lIn z Z) (k x : Nat) : wnt Z k x ↔ wnt z k x := by
  unfold wnt tM
  rw [ag 127 4 rfl, ag 182 k rfl, ag 185 k rfl]
  constructor
  · intro q
    rcases q with q | ⟨i, q1, q2⟩
    · exact Or.inl q
    · exact Or.inr ⟨i, q1, by rw [← ag 186 _ rfl]; exact q2⟩
  · intro q
    rcases q with q | ⟨i, q1, q2⟩
    · exact Or.inl q
    · exact Or.inr ⟨i, q1, by rw [ag 186 _ rfl]; exact q2⟩
theorem ins_x {v z wl Z : MW} (lk : LkP v z (fun k x => (k : Int) < (z.1 127 26).toInt ∧ wnt z k x) wl) (ag : Ag lIn z Z) (n0 : 0 ≤ (z.1 127 26).toInt) (e17 : ∀ j, Z.1 17 j = v.1 17 j) (e194 : ∀ j, Z.1 194 j = wl.1 194 j) : INs Z := by
  intro x hx
  have e1 : tM Z = tM z := by
    unfold tM
    rw [ag 127 4 rfl]
  have e2 : pM Z = pM z := by
    unfold pM
    rw [ag 127 11 rfl]
  have en : nwy Z = nwy z := by
    unfold nwy
    rw [ag 127 26 rfl]
  have nn : ((nwy z : Nat) : Int) = (z.1 127 26).toInt := by
    unfold nwy
    omega
  rw [e1, e2] at hx
  rw [e17, e194, en]
  rcases lk.2 x hx with l | ⟨l1, ⟨l2, l3⟩ | ⟨k, l2, l3⟩⟩
  · exact Or.inl l
  · exact Or.inr ⟨l1, Or.inl ⟨l2, fun k hk w2 => l3 k ⟨by omega, (wnt_a ag k x).mp w2⟩⟩⟩
  · refine Or.inr ⟨l1, Or.inr ⟨k, ?_, (wnt_a ag k x).mpr l2.2, ?_⟩⟩
    · have := l2.1
      omega
    · rw [l3, ag 183 k rfl]
/-- both isSafe, each in its world -/
theorem sf_mx {v w v1 w1 : MW} {r r' : Int32} (hp : HPl (mx v w)) (ht : HTb (mx v w)) (pb : PB (mx v w)) (h11 : ∀ t : Nat, 0 ≤ (v.1 11 t).toInt) (sr : SRr (mx v w)) (c : SfC v r v1) (m : SfM w r' w1) : (r = 1 ∧ r' = 1 ∧ (v1.1 42 6).toInt = 0 ∧ w1.1 = w.1) ∨ (r = 0 ∧ r' = 0 ∧ ∃ f x a b : Int32, w1.1 = (dgW w f x a b).1 ∧ v1.1 42 6 = f ∧ v1.1 42 7 = x ∧ v1.1 42 8 = a ∧ v1.1 42 9 = b) := by
  refine sf_two (w := mx v w) (fun k j hk => ?_) (fun k j hk => ?_) hp.1 pb hp.2.1 (fun t => ?_) sr ht.2.2.1 ht.2.1 c m
  · unfold cS at hk
    simp only [Bool.or_eq_true, beq_iff_eq] at hk
    exact mx_c _ _ (by omega) j
  · unfold mS at hk
    simp only [Bool.or_eq_true, beq_iff_eq] at hk
    exact mx_m _ _ (by omega) j
  · rw [mx_c _ _ (by decide)]
    exact h11 t
