/-! what isSafe hangs on -/
/-- the cells that the class's isSafe reads -/
def cS (c : Nat) : Bool := c == 8 || c == 9 || c == 11 || c == 13 || c == 14 || c == 15 || c == 16 || c == 17 || c == 22 || c == 26 || c == 28 || c == 30 || c == 31 || c == 32 || c == 35
theorem edC_g {w w' : MW} (h : ∀ c j, cS c = true → w'.1 c j = w.1 c j) (v ps : Int32) : EdC w' v ps = EdC w v ps := by
  have e1 : tC w' = tC w := by
    unfold tC
    rw [h 8 0 rfl]
  have e2 : pC w' = pC w := by
    unfold pC
    rw [h 8 1 rfl]
  have e3 : atC w' = atC w := by
    funext e
    unfold atC
    rw [h 13 e rfl]
  have e4 : tkC w' = tkC w := by
    funext t
    unfold tkC
    rw [h 9 _ rfl]
  have e5 : psC w' v ps = psC w v ps := by
    funext e g
    unfold psC sgC poC
    rw [e3, h 14 e rfl, h 14 g rfl, h 9 _ rfl, h 16 _ rfl]
  unfold EdC
  rw [e1, e2, e3, e4, e5]
theorem srC_g {w w' : MW} (h : ∀ c j, cS c = true → w'.1 c j = w.1 c j) (l y : Nat) : (WyS w' l y ↔ WyS w l y) ∧ (LqS w' l y ↔ LqS w l y) := by
  have e1 : tC w' = tC w := by
    unfold tC
    rw [h 8 0 rfl]
  have e2 : pC w' = pC w := by
    unfold pC
    rw [h 8 1 rfl]
  have e3 : ∀ k i, wpi w' k i = wpi w k i := fun k i => by
    unfold wpi
    rw [chn_c (fun j => h 35 j rfl), h 32 k rfl]
  have e4 : ∀ k i, wok w' k i ↔ wok w k i := fun k i => by
    unfold wok
    rw [h 31 k rfl]
    constructor
    · intro q
      exact ⟨q.1, fun j hj => by rw [← e3]; exact q.2 j hj⟩
    · intro q
      exact ⟨q.1, fun j hj => by rw [e3]; exact q.2 j hj⟩
  constructor
  · unfold WyS
    rw [e1, h 26 1 rfl]
    constructor
    · intro q
      obtain ⟨k, q1, q2, q3⟩ := q
      rw [h 30 k rfl] at q2
      rw [h 28 k rfl] at q3
      refine ⟨k, q1, q2, ?_⟩
      rcases q3 with q3 | ⟨i, q4, q5⟩
      · exact Or.inl q3
      · exact Or.inr ⟨i, (e4 k i).mp q4, by rw [← e3]; exact q5⟩
    · intro q
      obtain ⟨k, q1, q2, q3⟩ := q
      refine ⟨k, q1, by rw [h 30 k rfl]; exact q2, ?_⟩
      rw [h 28 k rfl]
      rcases q3 with q3 | ⟨i, q4, q5⟩
      · exact Or.inl q3
      · exact Or.inr ⟨i, (e4 k i).mpr q4, by rw [e3]; exact q5⟩
  · unfold LqS
    rw [e1, e2, h 17 y rfl]
theorem oth_g {w w' : MW} (h : ∀ c j, cS c = true → w'.1 c j = w.1 c j) (t p : Nat) : oth w' t p = oth w t p := by
  unfold oth mpt kC qC
  rw [h 9 t rfl, h 16 t rfl, h 11 t rfl]
theorem flC_g {w w' : MW} (h : ∀ c j, cS c = true → w'.1 c j = w.1 c j) (v ps : Int32) (l x : Nat) : FlC w' v ps l x ↔ FlC w v ps l x := by
  unfold FlC
  refine rea_c (fun z y => ?_) (fun y => ?_) x
  · unfold EdD
    rw [edC_g h]
  · unfold SrC
    rw [(srC_g h l y).1, (srC_g h l y).2]
theorem bdC_g {w w' : MW} (h : ∀ c j, cS c = true → w'.1 c j = w.1 c j) (v ps : Int32) (x a b : Nat) : BdC w' v ps x a b ↔ BdC w v ps x a b := by
  unfold BdC
  rw [flC_g h, flC_g h, h 22 b rfl]
theorem lbC_g {w w' : MW} (h : ∀ c j, cS c = true → w'.1 c j = w.1 c j) (v ps : Int32) (x a b : Nat) : LbC w' v ps x a b ↔ LbC w v ps x a b := by
  unfold LbC
  rw [bdC_g h]
  constructor
  · intro q
    exact ⟨q.1, fun x' a' b' r => q.2 x' a' b' ((bdC_g h v ps x' a' b').mpr r)⟩
  · intro q
    exact ⟨q.1, fun x' a' b' r => q.2 x' a' b' ((bdC_g h v ps x' a' b').mp r)⟩
theorem clC_g {w w' : MW} (h : ∀ c j, cS c = true → w'.1 c j = w.1 c j) (v ps : Int32) : clC w' v ps ↔ clC w v ps := ⟨fun q x a b r => q x a b ((bdC_g h v ps x a b).mpr r), fun q x a b r => q x a b ((bdC_g h v ps x a b).mp r)⟩
theorem kC_g {w w' : MW} (h : ∀ c j, cS c = true → w'.1 c j = w.1 c j) (t : Nat) : kC w' t = kC w t := by
  unfold kC
  rw [h 9 t rfl]
theorem visC_g {w w' : MW} (h : ∀ c j, cS c = true → w'.1 c j = w.1 c j) (t p : Nat) : visC w' t p ↔ visC w t p := by
  unfold visC tC
  rw [kC_g h, h 8 0 rfl]
/-- the class's answer hangs on these cells alone -/
theorem SfC_g {w w' w1 : MW} {r : Int32} (h : ∀ c j, cS c = true → w'.1 c j = w.1 c j) (s : SfC w r w1) : SfC w' r w1 := by
  rcases s with ⟨s1, s2, s3, s4⟩ | ⟨s1, s7, s8, s9, s⟩
  · refine Or.inl ⟨s1, s2, (clC_g h _ _).mpr s3, fun t p v => ?_⟩
    rw [kC_g h]
    exact (clC_g h _ _).mpr (s4 t p ((visC_g h t p).mp v))
  · refine Or.inr ⟨s1, s7, s8, s9, ?_⟩
    rcases s with ⟨f1, s⟩ | ⟨c0, t, p, f1, v, cl, s⟩
    · exact Or.inl ⟨f1, (lbC_g h _ _ _ _ _).mpr s⟩
    · refine Or.inr ⟨(clC_g h _ _).mpr c0, t, p, f1, ⟨(visC_g h t p).mpr v.1, by rw [oth_g h]; exact v.2.1, ?_⟩, fun t' p' v' l => ?_, ?_⟩
      · rw [oth_g h, oth_g h]
        exact v.2.2
      · rw [kC_g h]
        exact (clC_g h _ _).mpr (cl t' p' ((visC_g h t' p').mp v') l)
      · rw [kC_g h]
        exact (lbC_g h _ _ _ _ _).mpr s
/-- the cells that the reference's isSafe reads -/
def mS (c : Nat) : Bool := c == 127 || c == 163 || c == 167 || c == 170 || c == 171 || c == 175 || c == 194
theorem EdM_g {w w' : MW} (h : ∀ c j, mS c = true → w'.1 c j = w.1 c j) : EdM w' = EdM w := by
  have e1 : tM w' = tM w := by
    unfold tM
    rw [h 127 4 rfl]
  have e2 : pM w' = pM w := by
    unfold pM
    rw [h 127 11 rfl]
  have e3 : atM w' = atM w := by
    funext e
    unfold atM
    rw [h 170 e rfl]
  have e4 : tkM w' = tkM w := by
    funext t
    unfold tkM
    rw [h 163 _ rfl]
  have e5 : psM w' = psM w := by
    funext e g
    unfold psM
    rw [e3, h 163 _ rfl, h 167 _ rfl, h 171 _ rfl, h 171 _ rfl]
  unfold EdM
  rw [e1, e2, e3, e4, e5]
theorem BdM_g {w w' : MW} (h : ∀ c j, mS c = true → w'.1 c j = w.1 c j) : BdM w' = BdM w ∧ LbM w' = LbM w := by
  have en : nsp w' = nsp w := by
    unfold nsp
    rw [h 127 4 rfl, h 127 11 rfl]
  have eE : EdN w' = EdN w := by
    funext z y
    unfold EdN
    rw [en, EdM_g h]
  have eS : Si w' = Si w := by
    funext a y
    unfold Si
    rw [en, h 194 y rfl]
  have eF : FlM w' = FlM w := by
    funext l x
    unfold FlM
    rw [eE, eS]
  have eM : Mt w' = Mt w := by
    funext a b
    unfold Mt
    rw [h 175 _ rfl]
  constructor
  · funext x a b
    unfold BdM
    rw [eF, eM, en]
  · funext x a b
    unfold LbM
    rw [eF, eM, en]
theorem Cf_g {w w' : MW} (h : ∀ c j, mS c = true → w'.1 c j = w.1 c j) (t p : Nat) : ∀ c j, mS c = true → (Cf w' t p).1 c j = (Cf w t p).1 c j := fun c j hc => by
  unfold Cf
  rw [sI_at, sI_at, h c j hc]
theorem clM_g {w w' : MW} (h : ∀ c j, mS c = true → w'.1 c j = w.1 c j) : clM w' = clM w := by
  unfold clM
  rw [(BdM_g h).1]
theorem vis_g {w w' : MW} (h : ∀ c j, mS c = true → w'.1 c j = w.1 c j) (t p : Nat) : vis w' t p = vis w t p := by
  unfold vis tM
  rw [h 127 4 rfl, h 163 t rfl, h 167 t rfl]
/-- the reference's answer hangs on these cells alone -/
theorem SfM_g {w w' w2 : MW} {r : Int32} (h : ∀ c j, mS c = true → w'.1 c j = w.1 c j) (s : SfM w r w2) : (r = 1 ∧ w2.1 = w.1 ∧ SfM w' r w') ∨ (r = 0 ∧ ∃ f x a b : Int32, w2.1 = (dgW w f x a b).1 ∧ SfM w' r (dgW w' f x a b)) := by
  obtain ⟨s0, s⟩ := s
  rcases s with ⟨s1, s2, s3, s4⟩ | ⟨s1, f, x, a, b, s2, s3, s4⟩
  · refine Or.inl ⟨s1, s2, rfl, Or.inl ⟨s1, rfl, ?_, fun t p v => ?_⟩⟩
    · rw [clM_g h]
      exact s3
    · rw [clM_g (Cf_g h t p)]
      exact s4 t p (by rw [← vis_g h]; exact v)
  · refine Or.inr ⟨s1, f, x, a, b, s2, rfl, Or.inr ⟨s1, f, x, a, b, rfl, ?_, s4⟩⟩
    rcases s3 with ⟨f1, q⟩ | ⟨c0, t, p, f1, v, cl, q⟩
    · exact Or.inl ⟨f1, by rw [(BdM_g h).2]; exact q⟩
    · refine Or.inr ⟨by rw [clM_g h]; exact c0, t, p, f1, by rw [vis_g h]; exact v, fun t' p' v' l => ?_, ?_⟩
      · rw [clM_g (Cf_g h t' p')]
        exact cl t' p' (by rw [← vis_g h]; exact v') l
      · rw [(BdM_g (Cf_g h t p)).2]
        exact q
/-- both answers, each in its own world: w is like wC for the class and like wM for the reference -/
theorem sf_two {w wC wM w1 w2 : MW} {r r' : Int32} (hC : ∀ c j, cS c = true → w.1 c j = wC.1 c j) (hM : ∀ c j, mS c = true → w.1 c j = wM.1 c j) (h : PLq w) (hb : PB w) (hx : PX w) (h11 : ∀ t : Nat, 0 ≤ (w.1 11 t).toInt) (sr : SRr w) (mm : MM w) (ms : MSy w) (c : SfC wC r w1) (m : SfM wM r' w2) : (r = 1 ∧ r' = 1 ∧ (w1.1 42 6).toInt = 0 ∧ w2.1 = wM.1) ∨ (r = 0 ∧ r' = 0 ∧ ∃ f x a b : Int32, w2.1 = (dgW wM f x a b).1 ∧ w1.1 42 6 = f ∧ w1.1 42 7 = x ∧ w1.1 42 8 = a ∧ w1.1 42 9 = b) := by
  have c' := SfC_g (fun k j hk => hC k j hk) c
  rcases SfM_g (fun k j hk => hM k j hk) m with ⟨e1, e2, m'⟩ | ⟨e1, f, x, a, b, e2, m'⟩
  · rcases sf_eq h hb hx h11 sr mm ms c' m' with q | q
    · exact Or.inl ⟨q.1, q.2.1, q.2.2.1, e2⟩
    · have := q.2.1
      rw [e1] at this
      exact absurd (congrArg Int32.toInt this) (by decide)
  · rcases sf_eq h hb hx h11 sr mm ms c' m' with q | ⟨q1, q2, f', x', a', b', q3, q4⟩
    · have := q.2.1
      rw [e1] at this
      exact absurd (congrArg Int32.toInt this) (by decide)
    · refine Or.inr ⟨q1, q2, f, x, a, b, e2, ?_⟩
      have g : ∀ j, (dgW w f x a b).1 127 j = (dgW w f' x' a' b').1 127 j := fun j => by rw [q3]
      have r45 : ∀ f x a b : Int32, (dgW w f x a b).1 127 45 = f := fun f x a b => by
        unfold dgW
        rw [sI_ne _ _ _ _ _ (by decide), sI_ne _ _ _ _ _ (by decide), sI_ne _ _ _ _ _ (by decide), sI_same]
      have r46 : ∀ f x a b : Int32, (dgW w f x a b).1 127 46 = x := fun f x a b => by
        unfold dgW
        rw [sI_ne _ _ _ _ _ (by decide), sI_ne _ _ _ _ _ (by decide), sI_same]
      have r47 : ∀ f x a b : Int32, (dgW w f x a b).1 127 47 = a := fun f x a b => by
        unfold dgW
        rw [sI_ne _ _ _ _ _ (by decide), sI_same]
      have r48 : ∀ f x a b : Int32, (dgW w f x a b).1 127 48 = b := fun f x a b => by
        unfold dgW
        rw [sI_same]
      have g1 := g 45
      have g2 := g 46
      have g3 := g 47
      have g4 := g 48
      rw [r45, r45] at g1
      rw [r46, r46] at g2
      rw [r47, r47] at g3
      rw [r48, r48] at g4
      rw [g1, g2, g3, g4]
      exact q4
