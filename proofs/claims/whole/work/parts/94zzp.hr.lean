/-! the house of both sides -/
/-- cells that agree -/
def Ag (l : Pl) (w w' : MW) : Prop := ∀ k j, hit l k j = true → w'.1 k j = w.1 k j
theorem ag_m {l m : Pl} {w w' : MW} (h : Ag l w w') (s : sub m l = true) : Ag m w w' := fun k j hk => h k j (sub_hit s hk)
theorem ag_f {l m : Pl} {w w' : MW} (h : FR l w w') (ho : off l m = true) : Ag m w w' := fun k j hk => (h k j (off_hit ho hk)).1
def lPL : Pl := [(8, some 0), (8, some 1), (9, none), (11, none), (13, none), (14, none), (15, none), (16, none), (127, some 4), (127, some 11), (163, none), (167, none), (170, none), (171, none)]
theorem tC_ag {w w' : MW} (h : Ag lPL w w') : tC w' = tC w ∧ pC w' = pC w ∧ atC w' = atC w ∧ tkC w' = tkC w ∧ poC w' = poC w ∧ kC w' = kC w := by
  refine ⟨?_, ?_, ?_, ?_, ?_, ?_⟩
  · unfold tC
    rw [h 8 0 rfl]
  · unfold pC
    rw [h 8 1 rfl]
  · funext e
    unfold atC
    rw [h 13 e rfl]
  · funext t
    unfold tkC
    rw [h 9 _ rfl]
  · funext e
    unfold poC
    rw [h 14 e rfl]
  · funext t
    unfold kC
    rw [h 9 t rfl]
theorem tM_ag {w w' : MW} (h : Ag lPL w w') : tM w' = tM w ∧ pM w' = pM w ∧ atM w' = atM w ∧ tkM w' = tkM w := by
  refine ⟨?_, ?_, ?_, ?_⟩
  · unfold tM
    rw [h 127 4 rfl]
  · unfold pM
    rw [h 127 11 rfl]
  · funext e
    unfold atM
    rw [h 170 e rfl]
  · funext t
    unfold tkM
    rw [h 163 _ rfl]
/-- the plants -/
def HPl (w : MW) : Prop := PLq w ∧ PX w ∧ PY w ∧ PMq w
theorem HPl_ag {w w' : MW} (h : Ag lPL w w') (s : HPl w) : HPl w' := by
  obtain ⟨c1, c2, c3, c4, c5, c6⟩ := tC_ag h
  obtain ⟨m1, m2, m3, m4⟩ := tM_ag h
  obtain ⟨s1, s2, s3, s4⟩ := s
  refine ⟨?_, ?_, ?_, ?_⟩
  · unfold PLq
    rw [c1, c2, c3, c5, c6, m1, m2, m3, m4]
    refine ⟨s1.1, s1.2.1, fun t ht => ?_, fun e he => ?_⟩
    · rw [h 163 t rfl, h 16 t rfl, h 167 t rfl]
      exact s1.2.2.1 t ht
    · rw [h 14 e rfl, h 171 e rfl]
      exact s1.2.2.2 e he
  · unfold PX
    rw [c1, c2, c3, c4, c5]
    refine ⟨fun e he => ⟨(s2.1 e he).1, fun a b => ?_⟩, fun t j ht hj h0 => ?_⟩
    · rw [h 15 _ rfl]
      exact (s2.1 e he).2 a b
    · rw [h 15 _ rfl] at h0 ⊢
      exact s2.2 t j ht hj h0
  · unfold PY
    rw [c2, c3, c4, c5]
    intro e he a b
    rw [h 11 _ rfl]
    exact s3 e he a b
  · unfold PMq
    rw [c2, c3, c4, c5]
    exact s4
/-- the tables -/
def HTb (w : MW) : Prop := NDt w ∧ MSy w ∧ MM w ∧ TBv w w
def lTq : Pl := [(22, none), (24, none), (25, none), (41, none), (175, none), (176, none), (177, none)]
theorem HTb_ag {w w' : MW} (h : Ag lTq w w') (s : HTb w) : HTb w' := by
  obtain ⟨s1, s2, s3, s4⟩ := s
  refine ⟨fun i hi => ?_, fun i j h1 h2 h3 h4 => ?_, fun i j h1 h2 h3 h4 => ?_, fun i j h1 h2 h3 h4 => ?_, fun l h1 h2 => ?_⟩
  · rw [h 41 i rfl]
    exact s1 i hi
  · rw [h 22 i rfl, h 22 j rfl]
    exact s2 i j h1 h2 h3 h4
  · rw [h 22 i rfl, h 175 _ rfl]
    exact s3 i j h1 h2 h3 h4
  · rw [h 24 _ rfl, h 176 _ rfl]
    exact s4.1 i j h1 h2 h3 h4
  · rw [h 25 _ rfl, h 177 _ rfl]
    exact s4.2 l h1 h2
/-- the tanks -/
def SKt (w : MW) : Prop := ∀ t : Nat, (t : Int) < tM w → tkM w t → w.1 18 t = w.1 165 t ∧ w.1 10 t = w.1 164 t ∧ 0 ≤ (w.1 165 t).toInt ∧ (w.1 165 t).toInt ≤ (w.1 164 t).toInt ∧ (0 < (w.1 165 t).toInt → 1 ≤ (w.1 166 t).toInt ∧ (w.1 166 t).toInt ≤ 14)
/-- cell c of pipe p, of the class -/
def cel (w : MW) (p c : Nat) : Bool := lb (w.2.1 20 (4 * p + c / 64)) (c % 64)
/-- the pipes -/
def SKp (w : MW) : Prop := ∀ p : Nat, (p : Int) < pM w → w.1 12 p = w.1 169 p ∧ (1 ≤ (w.1 169 p).toInt ∧ (w.1 169 p).toInt ≤ 200) ∧ (0 ≤ (w.1 21 p).toInt ∧ (w.1 21 p).toInt < (w.1 169 p).toInt) ∧ (∀ k : Nat, (k : Int) < (w.1 169 p).toInt → (cel w p (((w.1 21 p).toInt.toNat + k) % (w.1 169 p).toInt.toNat) = true ↔ ¬ w.1 172 (200 * p + k) = 0)) ∧ (w.1 18 ((tM w).toNat + p)).toInt = ctb (fun k => decide (¬ w.1 172 (200 * p + k) = 0)) (w.1 169 p).toInt.toNat
def HSk (w : MW) : Prop := SKl w w ∧ SKv w w ∧ SKt w ∧ SKp w ∧ ∀ x l : Nat, (x : Int) < tM w + pM w → 1 ≤ l → l ≤ 5 → ¬ (w.1 17 x).toInt = 0 → w.1 23 (6 * x + l) = -1
def lSk : Pl := [(7, some 1), (10, none), (12, none), (17, none), (18, none), (19, none), (21, none), (23, none), (127, some 78), (164, none), (165, none), (166, none), (169, none), (172, none), (173, none), (174, none)]
theorem HSk_ag {w w' : MW} (hp : Ag lPL w w') (h : Ag lSk w w') (h20 : ∀ j, w'.2.1 20 j = w.2.1 20 j) (s : HSk w) : HSk w' := by
  obtain ⟨m1, m2, m3, m4⟩ := tM_ag hp
  obtain ⟨s1, s2, s3, s4, s5⟩ := s
  refine ⟨?_, ?_, ?_, ?_, ?_⟩
  · unfold SKl
    rw [m1, m2, m4]
    refine ⟨fun t ht => ?_, fun p hp' => ?_⟩
    · rw [h 17 t rfl, h 165 t rfl, h 166 t rfl]
      exact s1.1 t ht
    · rw [h 17 _ rfl, h 169 p rfl]
      rcases s1.2 p hp' with ⟨a, b⟩ | ⟨a, b, k, hk, c⟩
      · exact Or.inl ⟨a, fun k hk => by rw [h 172 _ rfl]; exact b k hk⟩
      · exact Or.inr ⟨a, fun k hk => by rw [h 172 _ rfl]; exact b k hk, k, hk, by rw [h 172 _ rfl]; exact c⟩
  · unfold SKv
    rw [m1, m2, h 7 1 rfl, h 127 78 rfl]
    refine ⟨fun x hx => ?_, fun x l hx h1 h2 => ?_, s2.2.2⟩
    · rw [h 17 x rfl, h 173 x rfl, h 19 x rfl]
      exact s2.1 x hx
    · rw [h 23 _ rfl, h 174 _ rfl]
      exact s2.2.1 x l hx h1 h2
  · unfold SKt
    rw [m1, m4]
    intro t ht tk
    rw [h 18 t rfl, h 165 t rfl, h 10 t rfl, h 164 t rfl, h 166 t rfl]
    exact s3 t ht tk
  · unfold SKp
    rw [m1, m2]
    intro p hp'
    have q := s4 p hp'
    have ec : ∀ c, cel w' p c = cel w p c := fun c => by
      unfold cel
      rw [h20]
    have ef : (fun k => decide (¬ w'.1 172 (200 * p + k) = 0)) = fun k => decide (¬ w.1 172 (200 * p + k) = 0) := by
      funext k
      rw [h 172 _ rfl]
    rw [h 12 p rfl, h 169 p rfl, h 21 p rfl, h 18 _ rfl, ef]
    refine ⟨q.1, q.2.1, q.2.2.1, fun k hk => ?_, q.2.2.2.2⟩
    rw [ec, h 172 _ rfl]
    exact q.2.2.2.1 k hk
  · rw [m1, m2]
    intro x l hx h1 h2 n
    rw [h 17 x rfl] at n
    rw [h 23 _ rfl]
    exact s5 x l hx h1 h2 n
/-- the ways -/
def HWy (w : MW) : Prop := WRa w ∧ WRb w ∧ WRc w ∧ WRd w ∧ WRe w ∧ WRf w
def lWy : Pl := [(26, some 1), (27, none), (28, none), (29, none), (30, none), (31, none), (32, none), (33, none), (34, none), (35, none), (36, none), (37, none), (127, some 26), (181, none), (182, none), (183, none), (184, none), (185, none), (186, none), (187, none)]
theorem HWy_ag {w w' : MW} (hp : Ag lPL w w') (h : Ag lWy w w') (h17 : ∀ p : Nat, w'.1 17 ((tM w).toNat + p) = w.1 17 ((tM w).toNat + p)) (s : HWy w) : HWy w' := by
  obtain ⟨m1, m2, m3, m4⟩ := tM_ag hp
  obtain ⟨s1, s2, s3, s4, s5, s6⟩ := s
  have en : nwy w' = nwy w := by
    unfold nwy
    rw [h 127 26 rfl]
  have el : wln w' = wln w := by
    funext k
    unfold wln
    rw [h 185 k rfl]
  have ee : ent w' = ent w := by
    funext k i
    unfold ent
    rw [h 186 _ rfl]
  have eo : onN w' = onN w := by
    funext p
    unfold onN
    rw [en, el, ee]
  have eh : ∀ t, hldB w' t = hldB w t := fun t => by
    funext k
    unfold hldB
    rw [h 187 _ rfl]
  refine ⟨?_, ?_, ?_, ?_, ?_, ?_⟩
  · unfold WRa
    rw [en, m1, m4, h 26 1 rfl, h 127 26 rfl]
    refine ⟨s1.1, s1.2.1, s1.2.2.1, fun k hk => ?_⟩
    rw [h 27 k rfl, h 28 k rfl, h 29 k rfl, h 30 k rfl, h 31 k rfl, h 181 k rfl, h 182 k rfl, h 183 k rfl, h 184 k rfl, h 185 k rfl]
    exact s1.2.2.2 k hk
  · unfold WRb
    rw [en, el, ee, m2]
    intro k hk
    rw [h 32 k rfl, h 33 k rfl]
    refine ⟨fun i hi => ?_, (s2 k hk).2⟩
    rw [h 186 _ rfl, h 34 _ rfl, h 35 _ rfl]
    exact (s2 k hk).1 i hi
  · unfold WRc
    rw [en, el, ee, m2, eo]
    refine ⟨fun p hp' => ?_, s3.2⟩
    rw [h 36 p rfl]
    exact s3.1 p hp'
  · unfold WRd
    rw [en, el, ee, m3, m4]
    intro k hk
    rw [h 181 k rfl, h 182 k rfl]
    exact s4 k hk
  · unfold WRe
    rw [en, el, ee, m1, m3]
    refine ⟨fun k t hk ht => ?_, ?_, fun t ht => ?_⟩
    · rw [h 187 _ rfl]
      exact s5.1 k t hk ht
    · intro k t hk ht n1 k2
      rw [m1] at ht
      rw [h 127 26 rfl] at hk
      rw [h 187 _ rfl] at n1 ⊢
      rw [hp 163 t rfl] at k2
      rw [hp 167 t rfl]
      exact s5.2.1 k t hk ht n1 k2
    · rw [h 37 t rfl, eh]
      exact s5.2.2 t ht
  · unfold WRf
    rw [en, el, ee, m1]
    intro k i hk hi
    rw [h17 _, h 183 k rfl]
    exact s6 k i hk hi
/-- the house -/
def HRq (w : MW) : Prop := HPl w ∧ HTb w ∧ HSk w ∧ HWy w
theorem HRq_ag {w w' : MW} (h1 : Ag lPL w w') (h2 : Ag lTq w w') (h3 : Ag lSk w w') (h4 : Ag lWy w w') (h20 : ∀ j, w'.2.1 20 j = w.2.1 20 j) (s : HRq w) : HRq w' := ⟨HPl_ag h1 s.1, HTb_ag h2 s.2.1, HSk_ag h1 h3 h20 s.2.2.1, HWy_ag h1 h4 (fun p => h3 17 _ rfl) s.2.2.2⟩
theorem PB_b {w : MW} (h : BND w) : PB w := ⟨bd_8_0 h, bd_8_1 h, fun t _ => bd_9 h t, fun t _ => bd_16 h t, fun e => bd_14 h e⟩
