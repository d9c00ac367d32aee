/-! a valve is set: both sides -/
theorem BND_mx {v w : MW} (hv : BND v) (hw : BND w) : BND (mx v w) := fun k j => by
  by_cases q : k < 127
  · rw [mx_c _ _ q]
    exact hv k j
  · rw [mx_m _ _ q]
    exact hw k j
/-- the cells that tell where liquids flood from, of the class -/
def sS (c : Nat) : Bool := c == 8 || c == 17 || c == 26 || c == 28 || c == 30 || c == 31 || c == 32 || c == 35
theorem srC_s {w w' : MW} (h : ∀ c j, sS c = true → w'.1 c j = w.1 c j) (l y : Nat) : SrC w' l y ↔ SrC w l y := by
  have e1 : tC w' = tC w := by
    unfold tC
    rw [h 8 0 rfl]
  have e2 : pC w' = pC w := by
    unfold pC
    rw [h 8 1 rfl]
  have e3 : ∀ k i, wpi w' k i = wpi w k i := fun k i => by
    unfold wpi
    rw [chn_c (fun j => h 35 j rfl), h 32 k rfl]
  have e4 : ∀ k i, wok w' k i ↔ wok w k i := fun k i => by
    unfold wok
    rw [h 31 k rfl]
    constructor
    · intro q
      exact ⟨q.1, fun j hj => by rw [← e3]; exact q.2 j hj⟩
    · intro q
      exact ⟨q.1, fun j hj => by rw [e3]; exact q.2 j hj⟩
  have e5 : WyS w' l y ↔ WyS w l y := by
    unfold WyS
    rw [e1, h 26 1 rfl]
    constructor
    · intro q
      obtain ⟨k, q1, q2, q3⟩ := q
      rw [h 30 k rfl] at q2
      rw [h 28 k rfl] at q3
      refine ⟨k, q1, q2, ?_⟩
      rcases q3 with q3 | ⟨i, q4, q5⟩
      · exact Or.inl q3
      · exact Or.inr ⟨i, (e4 k i).mp q4, by rw [← e3]; exact q5⟩
    · intro q
      obtain ⟨k, q1, q2, q3⟩ := q
      refine ⟨k, q1, by rw [h 30 k rfl]; exact q2, ?_⟩
      rw [h 28 k rfl]
      rcases q3 with q3 | ⟨i, q4, q5⟩
      · exact Or.inl q3
      · exact Or.inr ⟨i, (e4 k i).mpr q4, by rw [e3]; exact q5⟩
  have e6 : LqS w' l y ↔ LqS w l y := by
    unfold LqS
    rw [e1, e2, h 17 y rfl]
  unfold SrC
  rw [e5, e6]
theorem PB_p {w w' : MW} (h : Ag lPc w w') (h16 : ∀ t : Nat, 0 ≤ (w'.1 16 t).toInt ∧ (w'.1 16 t).toInt ≤ 9) (s : PB w) : PB w' := by
  obtain ⟨c1, c2, _⟩ := tC_c h
  unfold PB
  rw [c1, c2]
  refine ⟨s.1, s.2.1, fun t ht => ?_, fun t _ => h16 t, fun e => ?_⟩
  · rw [h 9 t rfl]
    exact s.2.2.1 t ht
  · rw [h 14 e rfl]
    exact s.2.2.2.2 e
theorem MSy_g {w w' : MW} (h : ∀ j, w'.1 22 j = w.1 22 j) (s : MSy w) : MSy w' := fun i j h1 h2 h3 h4 => by
  rw [h i, h j]
  exact s i j h1 h2 h3 h4
theorem cst_x {v : MW} {a b : Int32} {Q Q' : Int32 → MW → Prop} (h : p_Ac_setPosition v a b Q) (hB : BND v) (ms : MSy v) (hx : PX v) (hy : PY v) (b0 : 0 ≤ b.toInt ∧ b.toInt ≤ 9) (s44 : ∀ l y, SrC v l y → y < 44) (k3 : ¬ (v.1 37 a.toInt.toNat).toInt ≤ 0 → Q 3 v → Q' 3 v) (k : (v.1 37 a.toInt.toNat).toInt ≤ 0 → ∀ (r : Int32) (w5 : MW), SfC (sI v 16 a.toInt.toNat b) r w5 → oSf (sI v 16 a.toInt.toNat b) w5 → (r = 0 → Q 7 (sI w5 16 a.toInt.toNat (v.1 16 a.toInt.toNat)) → Q' 7 (sI w5 16 a.toInt.toNat (v.1 16 a.toInt.toNat))) ∧ (r = 1 → Q 0 w5 → Q' 0 w5)) : p_Ac_setPosition v a b Q' := by
  rw [p_Ac_setPosition.eq_1, p_Wa_goesOver.eq_1] at h ⊢
  refine ⟨h.1, fun c => ⟨fun _ => ?_, fun z => absurd i_0 z⟩, fun c => ⟨fun z => absurd z (by decide), fun z => k3 c ((h.2.2 c).2 z)⟩⟩
  have H := (h.2.1 c).1 i_0
  have e16 : ∀ t : Nat, 0 ≤ ((sI v 16 a.toInt.toNat b).1 16 t).toInt ∧ ((sI v 16 a.toInt.toNat b).1 16 t).toInt ≤ 9 := fun t => by
    rw [sI_if]
    by_cases q : t = a.toInt.toNat
    · rw [if_pos q]
      exact b0
    · rw [if_neg q]
      exact bd_16 hB t
  refine ⟨H.1, H.2.1, sc_y H.2.2 (MSy_g (fun j => sI_oth _ _ _ _ _ _ (by decide)) ms) (PX_d (ag_i rfl) hx) (PY_c (ag_i rfl) hy) (PB_p (ag_i rfl) e16 (PB_b hB)) (fun k hk => ?_) (fun l y _ s => ?_) (fun r w5 sf o g => ?_)⟩
  · rw [sI_oth _ _ _ _ _ _ (by decide)]
    have := bd_28 hB k
    exact ⟨this.1, by omega⟩
  · refine s44 l y ((srC_s (fun c' j hc => ?_) l y).mp s)
    exact sI_oth _ _ _ _ _ _ (fun e => by rw [e] at hc; cases hc)
  · have K := k c r w5 sf o
    refine ⟨fun z => ⟨(g.1 z).1, ?_⟩, fun z => ?_⟩
    · rcases sf with ⟨e, _⟩ | ⟨e, _⟩
      · rw [e] at z
        exact absurd z (by decide)
      · exact K.1 e (g.1 z).2
    · rcases sf with ⟨e, _⟩ | ⟨e, _⟩
      · exact K.2 e (g.2 z)
      · rw [e] at z
        exact absurd i_0 z
/-- the reference's words for it -/
def mSet (w : MW) (a b : Int32) (Q : Int32 → MW → Prop) : Prop := p_Mo_held w a (fun r26 w26 => ((r26.toInt = (-1) → ((0 ≤ a.toInt ∧ a.toInt < 20) ∧ ((0 ≤ a.toInt ∧ a.toInt < 20) ∧ (p_Mo_look (sI w26 167 a.toInt.toNat b)  (fun w30 => (p_Mo_isSafe w30  (fun r31 w31 => ((¬ r31.toInt = 0 → (Q 0 w31)) ∧ (¬ (¬ r31.toInt = 0) → ((0 ≤ a.toInt ∧ a.toInt < 20) ∧ (Q 7 (sI w31 167 a.toInt.toNat (w26.1 167 a.toInt.toNat))))))))))))) ∧ (¬ (r26.toInt = (-1)) → (Q 3 w26))))
def lSl : Pl := [(127, some 4), (127, some 11), (163, none), (165, none), (166, none), (169, none), (172, none)]
theorem SKl_g {v v' w w' : MW} (e : ∀ j, v'.1 17 j = v.1 17 j) (h : Ag lSl w w') (s : SKl v w) : SKl v' w' := by
  have m1 : tM w' = tM w := by
    unfold tM
    rw [h 127 4 rfl]
  have m2 : pM w' = pM w := by
    unfold pM
    rw [h 127 11 rfl]
  have m4 : tkM w' = tkM w := by
    funext t
    unfold tkM
    rw [h 163 _ rfl]
  unfold SKl
  rw [m1, m2, m4]
  refine ⟨fun t ht => ?_, fun p hp => ?_⟩
  · rw [e t, h 165 t rfl, h 166 t rfl]
    exact s.1 t ht
  · rw [e _, h 169 p rfl]
    rcases s.2 p hp with ⟨a, b⟩ | ⟨a, b, k, hk, c⟩
    · exact Or.inl ⟨a, fun k hk => by rw [h 172 _ rfl]; exact b k hk⟩
    · exact Or.inr ⟨a, fun k hk => by rw [h 172 _ rfl]; exact b k hk, k, hk, by rw [h 172 _ rfl]; exact c⟩
/-- what look needs of the reference's world -/
def lLz : Pl := [(127, some 4), (127, some 11), (127, some 26), (163, none), (165, none), (166, none), (169, none), (172, none), (182, none), (183, none), (185, none)]
theorem lkz_x {v w z : MW} (hB : BND w) (hr : HRq (mx v w)) (ag : Ag lLz w z) (e186 : ∀ j, z.1 186 j = w.1 186 j) : LkZ v z ∧ ∀ k : Nat, (k : Int) < (z.1 127 26).toInt → 0 ≤ (z.1 182 k).toInt := by
  have T := hb_T hB
  have P := hb_P hB
  have m1 : tM z = tM w := by
    unfold tM
    rw [ag 127 4 rfl]
  have m2 : pM z = pM w := by
    unfold pM
    rw [ag 127 11 rfl]
  have t1 : tM (mx v w) = tM w := rfl
  have p1 : pM (mx v w) = pM w := rfl
  have n := w_n hr.2.2.2.1
  have n26 : ((mx v w).1 127 26) = w.1 127 26 := mx_m _ _ (by decide) _
  rw [n26] at n
  have W := hr.2.2.2.1.2.2.2
  refine ⟨⟨by rw [m1]; exact T, by rw [m2]; exact P, ?_, fun p hp => ?_, fun k hk => ?_, fun j => ?_, ?_⟩, fun k hk => ?_⟩
  · rw [ag 127 26 rfl]
    omega
  · rw [m2] at hp
    rw [ag 169 p rfl]
    have q := (hr.2.2.1.2.2.2.1 p (by rw [p1]; exact hp)).2.1.2
    rw [mx_m _ _ (by decide)] at q
    exact q
  · rw [ag 127 26 rfl] at hk
    have q := W k (by omega)
    rw [ag 183 k rfl, ag 185 k rfl]
    have q2 := q.2.2.1
    have q3 := q.2.1
    rw [mx_m _ _ (by decide)] at q2 q3
    exact ⟨by omega, q3.2⟩
  · rw [e186]
    exact m_186 hB j
  · exact SKl_g (v := mx v w) (w := mx v w) (fun j => (mx_c _ _ (by decide) j).symm) (ag_t (mx_am v w rfl) (ag_m ag rfl)) hr.2.2.1.1
  · rw [ag 127 26 rfl] at hk
    have q := (W k (by omega)).2.2.2.2.2.1.1
    rw [mx_m _ _ (by decide)] at q
    rw [ag 182 k rfl]
    exact q
theorem mst_x {v w : MW} {a b : Int32} {Q Q' : Int32 → MW → Prop} (h : mSet w a b Q) (hB : BND w) (hr : HRq (mx v w)) (a0 : 0 ≤ a.toInt) (a1 : a.toInt < 20) (k3 : ¬ unH w a.toInt → Q 3 w → Q' 3 w) (k : unH w a.toInt → ∀ (wl : MW), LkP v (sI w 167 a.toInt.toNat b) (fun k x => (k : Int) < ((sI w 167 a.toInt.toNat b).1 127 26).toInt ∧ wnt (sI w 167 a.toInt.toNat b) k x) wl → ∀ (r : Int32) (w5 : MW), SfM wl r w5 → (r = 1 → Q 0 w5 → Q' 0 w5) ∧ (r = 0 → Q 7 (sI w5 167 a.toInt.toNat (w.1 167 a.toInt.toNat)) → Q' 7 (sI w5 167 a.toInt.toNat (w.1 167 a.toInt.toNat)))) : mSet w a b Q' := by
  unfold mSet at h ⊢
  have T := hb_T hB
  have P := hb_P hB
  refine hd_x h a0 a1 (bd_127_26 hB).2 (fun r1 hd g => ⟨fun c => ?_, fun c => ?_⟩)
  · rcases hd with ⟨_, un⟩ | ⟨q, _⟩
    · have H := g.1 c
      obtain ⟨hz, hz2⟩ := lkz_x (z := sI w 167 a.toInt.toNat b) hB hr (ag_i rfl) (fun j => sI_oth _ _ _ _ _ _ (by decide))
      refine ⟨H.1, H.2.1, lo_x (v := v) H.2.2 hz hz2 (fun wl lk g2 => ?_)⟩
      have m1 : tM wl = tM w := by
        unfold tM
        rw [lk.1.2 127 4 (by decide), sI_oth _ _ _ _ _ _ (by decide)]
      have m2 : pM wl = pM w := by
        unfold pM
        rw [lk.1.2 127 11 (by decide), sI_oth _ _ _ _ _ _ (by decide)]
      refine sf_x g2 (by rw [m1]; exact T.1) (by rw [m1]; exact T.2) (by rw [m2]; exact P.1) (by rw [m2]; exact P.2) (fun r w5 sf g3 => ?_)
      have K := k un wl lk r w5 sf
      refine ⟨fun z => ?_, fun z => ⟨(g3.2 z).1, ?_⟩⟩
      · rcases sf.2 with ⟨e, _⟩ | ⟨e, _⟩
        · exact K.1 e (g3.1 z)
        · rw [e] at z
          exact absurd i_0 z
      · rcases sf.2 with ⟨e, _⟩ | ⟨e, _⟩
        · rw [e] at z
          exact absurd (by decide) z
        · exact K.2 e (g3.2 z).2
    · exact absurd c q
  · rcases hd with ⟨q, _⟩ | ⟨_, kk, hk, e⟩
    · rw [q] at c
      exact absurd (by decide) c
    · refine k3 (fun un => c ?_) (g.2 c)
      rw [e]
      exact un kk hk
