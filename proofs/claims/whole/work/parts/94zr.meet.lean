/-! the class's meet: floods by fresh spaces, and the first meeting -/
/-- how many of the first n are in f -/
def ctb (f : Nat → Bool) : Nat → Nat
  | 0 => 0
  | n + 1 => ctb f n + (if f n = true then 1 else 0)
theorem ctb_le (f : Nat → Bool) : ∀ n, ctb f n ≤ n := by
  intro n
  induction n with
  | zero => exact Nat.le_refl _
  | succ n ih =>
    show ctb f n + (if f n = true then 1 else 0) ≤ n + 1
    split <;> omega
theorem ctb_full {f : Nat → Bool} : ∀ n, n ≤ ctb f n → ∀ x, x < n → f x = true := by
  intro n
  induction n with
  | zero => exact fun _ x hx => absurd hx (Nat.not_lt_zero x)
  | succ n ih =>
    intro h x hx
    have h2 : n + 1 ≤ ctb f n + (if f n = true then 1 else 0) := h
    have h3 := ctb_le f n
    by_cases q : f n = true
    · rw [if_pos q] at h2
      by_cases z : x = n
      · rw [z]
        exact q
      · exact ih (by omega) x (by omega)
    · rw [if_neg q] at h2
      omega
theorem ctb_same {f g : Nat → Bool} : ∀ n, (∀ x, x < n → f x = g x) → ctb f n = ctb g n := by
  intro n
  induction n with
  | zero => exact fun _ => rfl
  | succ n ih =>
    intro h
    show ctb f n + (if f n = true then 1 else 0) = ctb g n + (if g n = true then 1 else 0)
    rw [ih (fun x hx => h x (by omega)), h n (by omega)]
theorem ctb_add {f g : Nat → Bool} {k : Nat} (hf : f k = false) (hg : ∀ x, g x = (f x || decide (x = k))) : ∀ n, k < n → ctb g n = ctb f n + 1 := by
  intro n
  induction n with
  | zero => exact fun h => absurd h (Nat.not_lt_zero k)
  | succ n ih =>
    intro h
    show ctb g n + (if g n = true then 1 else 0) = ctb f n + (if f n = true then 1 else 0) + 1
    by_cases q : k = n
    · have e1 : ctb g n = ctb f n := ctb_same n (fun x hx => by
        rw [hg x, decide_eq_false (by omega), Bool.or_false])
      have e2 : g n = true := by rw [hg n, decide_eq_true q.symm, Bool.or_true]
      have e3 : f n = false := by rw [← q]; exact hf
      rw [e1, e2, e3]
      rfl
    · have e2 : g n = f n := by rw [hg n, decide_eq_false (fun z => q z.symm), Bool.or_false]
      rw [ih (by omega), e2]
      omega
def E46 (w : MW) (z y : Nat) : Prop := z < 44 ∧ lb (w.2.1 46 z) y = true
def S43 (w : MW) (l y : Nat) : Prop := lb (w.2.1 43 l) y = true
theorem mt_49 {w0 w1 : MW} {l : Int32} {E E' : MW → Prop} {Q Q' : Int32 → MW → Prop} (l0 : 0 ≤ l.toInt) (o1 : oJ 45 w0 w1) (hS : ∀ y, S43 w0 l.toInt.toNat y → y < 44) (hE : ∀ z y, E46 w0 z y → y < 44) (k : ∀ w', oJ 45 w1 w' → (∀ i : Nat, ¬ i = l.toInt.toNat → w'.2.1 45 i = w1.2.1 45 i) → (∀ y, lb (w'.2.1 45 l.toInt.toNat) y = true ↔ Rea (E46 w0) (S43 w0 l.toInt.toNat) y) → E w' → E' w') : ∀ (m : Nat) (fr : Int64) (i : Int32) (w : MW), q_Sf_meet_49 l E Q m fr i w → 0 ≤ i.toInt → oJ 45 w1 w → (∀ j : Nat, ¬ j = l.toInt.toNat → w.2.1 45 j = w1.2.1 45 j) → (∀ y, S43 w0 l.toInt.toNat y → lb (w.2.1 45 l.toInt.toNat) y = true) → (∀ y, lb fr y = true → lb (w.2.1 45 l.toInt.toNat) y = true) → (∀ z y, lb (w.2.1 45 l.toInt.toNat) z = true → lb fr z = false → E46 w0 z y → lb (w.2.1 45 l.toInt.toNat) y = true) → (∀ y, lb (w.2.1 45 l.toInt.toNat) y = true → Rea (E46 w0) (S43 w0 l.toInt.toNat) y) → i.toInt ≤ ctb (fun x => lb (w.2.1 45 l.toInt.toNat) x && !(lb fr x)) 44 → q_Sf_meet_49 l E' Q' m fr i w := by
  have r44 : ∀ y, Rea (E46 w0) (S43 w0 l.toInt.toNat) y → y < 44 := rs_min hS (fun z y _ e => hE z y e)
  intro m
  induction m with
  | zero => exact fun _ _ _ h _ _ _ _ _ _ _ _ => False.elim h
  | succ m ih =>
    intro fr i w h i0 o oth c1 c2 c3 c4 c5
    have o2 := oJ_t o1 o
    have fin : (∀ y, y < 44 → lb fr y = false) → ∀ y, lb (w.2.1 45 l.toInt.toNat) y = true ↔ Rea (E46 w0) (S43 w0 l.toInt.toNat) y := fun n y => by
      refine ⟨c4 y, fun r => rs_min c1 (fun z y' hz e => c3 z y' hz (n z e.1) e) y r⟩
    rw [q_Sf_meet_49.eq_2] at h ⊢
    refine ⟨fun c => k w o oth (fin (fun y hy => ?_)) (h.1 c), fun c => ⟨fun d => k w o oth (fin (fun y _ => ?_)) ((h.2 c).1 d), fun d => ?_⟩⟩
    · have f := ctb_full (f := fun x => lb (w.2.1 45 l.toInt.toNat) x && !(lb fr x)) 44 (by omega) y hy
      have f' : (lb (w.2.1 45 l.toInt.toNat) y && !(lb fr y)) = true := f
      rw [Bool.and_eq_true] at f'
      cases q : lb fr y with
      | false => rfl
      | true =>
        have f2 := f'.2
        rw [q] at f2
        cases f2
    · rw [(cmp_0 _ _).mp d, lb_0]
    · have nz : ¬ fr = 0 := fun z => d ((cmp_0 _ _).mpr z)
      obtain ⟨b, hb⟩ := low_ex nz
      have bF := c2 b hb.2.1
      have b44 := r44 b (c4 b bF)
      have H := (h.2 c).2 d
      rw [nz_lo hb] at H ⊢
      have tb : (nI b).toInt = (b : Int) := nI_toInt (by omega)
      have e44 : (44 : Int32).toInt = 44 := by decide
      have rm : ((nI b) - (nI b) / (44 : Int32) * (44 : Int32)).toInt = (b : Int) := by
        rw [nb_rem (by omega) e44 (by decide), tb]
        omega
      have rn : ((nI b) - (nI b) / (44 : Int32) * (44 : Int32)).toInt.toNat = b := by omega
      have ei := ti_add2 (Eq.refl i.toInt) i_1 (by omega) (by omega)
      rw [rn] at H ⊢
      have e46 : w.2.1 46 b = w0.2.1 46 b := o2.2.2 46 b (by decide)
      refine ⟨H.1, H.2.1, H.2.2.1, H.2.2.2.1, ih _ _ _ H.2.2.2.2 (by omega) (oJ_s o _ _) (fun j hj => ?_) (fun y hy => ?_) (fun y hy => ?_) (fun z y hz hf e => ?_) (fun y hy => ?_) ?_⟩
      · rw [sJ_if, if_neg hj]
        exact oth j hj
      · rw [sJ_if, if_pos rfl, lb_or, c1 y hy]
        rfl
      · rw [sJ_if, if_pos rfl, lb_or]
        rw [lb_or, Bool.or_eq_true, lb_clr hb, Bool.and_eq_true] at hy
        rcases hy with hy | hy
        · rw [c2 y hy.1]
          rfl
        · rw [hy, Bool.or_true]
      · rw [sJ_if, if_pos rfl, lb_or, lb_andn] at hz ⊢
        rw [lb_or, lb_clr hb, lb_andn] at hf
        have hf1 : (lb fr z && !(decide (z = b))) = false := by
          cases q : (lb fr z && !(decide (z = b))) with
          | false => rfl
          | true =>
            rw [q] at hf
            cases hf
        have hf2 : (lb (w.2.1 46 b) z && !(lb (w.2.1 45 l.toInt.toNat) z)) = false := by
          cases q : (lb (w.2.1 46 b) z && !(lb (w.2.1 45 l.toInt.toNat) z)) with
          | false => rfl
          | true =>
            rw [q, Bool.or_true] at hf
            cases hf
        rw [hf2, Bool.or_false] at hz
        by_cases zb : z = b
        · have ey := e.2
          rw [zb, ← e46] at ey
          rw [ey]
          cases lb (w.2.1 45 l.toInt.toNat) y <;> rfl
        · rw [decide_eq_false zb] at hf1
          have hf3 : lb fr z = false := by
            cases q : lb fr z with
            | false => rfl
            | true =>
              rw [q] at hf1
              cases hf1
          rw [c3 z y hz hf3 e]
          rfl
      · rw [sJ_if, if_pos rfl, lb_or, lb_andn, Bool.or_eq_true, Bool.and_eq_true] at hy
        rcases hy with hy | hy
        · exact c4 y hy
        · have q := hy.1
          rw [e46] at q
          exact rs_step (c4 b bF) ⟨b44, q⟩
      · have cc := ctb_add (f := fun x => lb (w.2.1 45 l.toInt.toNat) x && !(lb fr x)) (g := fun x => lb ((sJ w 45 l.toInt.toNat ((w.2.1 45 l.toInt.toNat) ||| ((w.2.1 46 b) &&& ((w.2.1 45 l.toInt.toNat) ^^^ ((-1) : Int64))))).2.1 45 l.toInt.toNat) x && !(lb ((fr &&& (fr - (1 : Int64))) ||| ((w.2.1 46 b) &&& ((w.2.1 45 l.toInt.toNat) ^^^ ((-1) : Int64)))) x)) (k := b) (by
          show (lb (w.2.1 45 l.toInt.toNat) b && !(lb fr b)) = false
          rw [hb.2.1, bF]
          rfl) (fun x => by
          show (lb ((sJ w 45 l.toInt.toNat ((w.2.1 45 l.toInt.toNat) ||| ((w.2.1 46 b) &&& ((w.2.1 45 l.toInt.toNat) ^^^ ((-1) : Int64))))).2.1 45 l.toInt.toNat) x && !(lb ((fr &&& (fr - (1 : Int64))) ||| ((w.2.1 46 b) &&& ((w.2.1 45 l.toInt.toNat) ^^^ ((-1) : Int64)))) x)) = ((lb (w.2.1 45 l.toInt.toNat) x && !(lb fr x)) || decide (x = b))
          rw [sJ_if, if_pos rfl, lb_or, lb_or, lb_clr hb, lb_andn]
          by_cases xb : x = b
          · rw [xb, bF, decide_eq_true rfl]
            cases lb fr b <;> cases lb (w.2.1 46 b) b <;> rfl
          · rw [decide_eq_false xb]
            cases lb fr x <;> cases lb (w.2.1 46 b) x <;> cases lb (w.2.1 45 l.toInt.toNat) x <;> rfl) 44 b44
        rw [cc]
        omega
/-- what liquid l floods, as meet reckons it -/
def GC (w : MW) (l x : Nat) : Prop := ((w.1 44 l).toInt = 0 ∧ S43 w l x) ∨ (¬ (w.1 44 l).toInt = 0 ∧ Rea (E46 w) (S43 w l) x)
def BdG (w : MW) (x a b : Nat) : Prop := x < 44 ∧ 1 ≤ a ∧ a < b ∧ b < 15 ∧ GC w a x ∧ GC w b x ∧ mb (w.1 44 b) a = true
/-- pairs that were looked at -/
def prd (b0 a0 : Int) (a b : Nat) : Prop := (b : Int) < b0 ∨ ((b : Int) = b0 ∧ (a : Int) < a0)
def Wst (z : MW) (b0 a0 : Int) (w : MW) : Prop := ((w.1 42 7).toInt = 44 ∧ ∀ x a b, prd b0 a0 a b → ¬ BdG z x a b) ∨ (0 ≤ (w.1 42 7).toInt ∧ (w.1 42 7).toInt < 44 ∧ 0 ≤ (w.1 42 8).toInt ∧ 0 ≤ (w.1 42 9).toInt ∧ prd b0 a0 (w.1 42 8).toInt.toNat (w.1 42 9).toInt.toNat ∧ BdG z (w.1 42 7).toInt.toNat (w.1 42 8).toInt.toNat (w.1 42 9).toInt.toNat ∧ ∀ x a b, prd b0 a0 a b → BdG z x a b → (w.1 42 7).toInt.toNat < x ∨ ((w.1 42 7).toInt.toNat = x ∧ ((w.1 42 8).toInt.toNat < a ∨ ((w.1 42 8).toInt.toNat = a ∧ (w.1 42 9).toInt.toNat ≤ b))))
/-- only 42's numbers and the longs of 45 differ -/
def o42 (w0 w : MW) : Prop := (∀ c j, ¬ c = 42 → w.1 c j = w0.1 c j) ∧ (∀ c j, ¬ c = 45 → w.2.1 c j = w0.2.1 c j) ∧ w.2.2 = w0.2.2 ∧ ∀ j, j < 7 ∨ 9 < j → w.1 42 j = w0.1 42 j
theorem o42_I {w0 w : MW} (h : o42 w0 w) {j : Nat} (h7 : 7 ≤ j) (h9 : j ≤ 9) (v : Int32) : o42 w0 (sI w 42 j v) := ⟨fun c i hc => by
  rw [sI_oth _ _ _ _ _ _ hc]
  exact h.1 c i hc, h.2.1, h.2.2.1, fun i hi => by
  rw [sI_ne _ _ _ _ _ (by omega)]
  exact h.2.2.2 i hi⟩
/-- one pair is looked at: sp its lowest common space, 44 without -/
theorem mt_173 {z : MW} {l a sp : Int32} {w : MW} {A A' : Int32 → MW → Prop} {E E' : MW → Prop} {Q Q' : Int32 → MW → Prop} (l0 : 1 ≤ l.toInt) (l1 : l.toInt < 15) (a0 : 1 ≤ a.toInt) (a1 : a.toInt < l.toInt) (s0 : 0 ≤ sp.toInt) (s1 : sp.toInt ≤ 44) (hn : sp.toInt = 44 → ∀ x, ¬ BdG z x a.toInt.toNat l.toInt.toNat) (hs : sp.toInt < 44 → BdG z sp.toInt.toNat a.toInt.toNat l.toInt.toNat ∧ ∀ x, BdG z x a.toInt.toNat l.toInt.toNat → sp.toInt.toNat ≤ x) (st : Wst z l.toInt a.toInt w) (o : o42 z w) (h : q_Sf_meet_173 l a sp w A E Q) (k : ∀ w', o42 z w' → (∀ c j, w'.2.1 c j = w.2.1 c j) → Wst z l.toInt (a.toInt + 1) w' → A (a + (1 : Int32)) w' → A' (a + (1 : Int32)) w') : q_Sf_meet_173 l a sp w A' E' Q' := by
  have pp : ∀ a' b', prd l.toInt (a.toInt + 1) a' b' → prd l.toInt a.toInt a' b' ∨ (a' = a.toInt.toNat ∧ b' = l.toInt.toNat) := fun a' b' q => by
    unfold prd at *
    omega
  have pq : ∀ a' b', prd l.toInt a.toInt a' b' → prd l.toInt (a.toInt + 1) a' b' := fun a' b' q => by
    unfold prd at *
    omega
  have set : (sp.toInt < 44) → ((w.1 42 7).toInt = 44 ∨ sp.toInt < (w.1 42 7).toInt ∨ (sp.toInt = (w.1 42 7).toInt ∧ a.toInt < (w.1 42 8).toInt)) → Wst z l.toInt (a.toInt + 1) (sI (sI (sI w 42 7 sp) 42 8 a) 42 9 l) := fun s44 hc => by
    have r7 : (sI (sI (sI w 42 7 sp) 42 8 a) 42 9 l).1 42 7 = sp := by rw [sI_ne _ _ _ _ _ (by decide), sI_ne _ _ _ _ _ (by decide), sI_same]
    have r8 : (sI (sI (sI w 42 7 sp) 42 8 a) 42 9 l).1 42 8 = a := by rw [sI_ne _ _ _ _ _ (by decide), sI_same]
    have r9 : (sI (sI (sI w 42 7 sp) 42 8 a) 42 9 l).1 42 9 = l := by rw [sI_same]
    refine Or.inr ?_
    rw [r7, r8, r9]
    refine ⟨s0, s44, by omega, by omega, Or.inr ⟨by omega, by omega⟩, (hs s44).1, fun x a' b' hp hb => ?_⟩
    rcases pp a' b' hp with q | ⟨q1, q2⟩
    · rcases st with ⟨t7, t⟩ | ⟨t0, t1, t2, t3, t4, t5, t6⟩
      · exact absurd hb (t x a' b' q)
      · have := t6 x a' b' q hb
        omega
    · rw [q1, q2] at hb
      have := (hs s44).2 x hb
      omega
  have keep : ((w.1 42 7).toInt = 44 → sp.toInt = 44) → (sp.toInt < 44 → (w.1 42 7).toInt < sp.toInt ∨ ((w.1 42 7).toInt = sp.toInt ∧ (w.1 42 8).toInt ≤ a.toInt)) → Wst z l.toInt (a.toInt + 1) w := fun h1 h2 => by
    rcases st with ⟨t7, t⟩ | ⟨t0, t1, t2, t3, t4, t5, t6⟩
    · refine Or.inl ⟨t7, fun x a' b' hp => ?_⟩
      rcases pp a' b' hp with q | ⟨q1, q2⟩
      · exact t x a' b' q
      · rw [q1, q2]
        exact hn (h1 t7) x
    · refine Or.inr ⟨t0, t1, t2, t3, pq _ _ t4, t5, fun x a' b' hp hb => ?_⟩
      rcases pp a' b' hp with q | ⟨q1, q2⟩
      · exact t6 x a' b' q hb
      · rw [q1, q2] at hb
        by_cases s44 : sp.toInt < 44
        · have u1 := (hs s44).2 x hb
          have u2 := h2 s44
          have u3 := t4
          unfold prd at u3
          omega
        · exact absurd hb (hn (by omega) x)
  have oS : o42 z (sI (sI (sI w 42 7 sp) 42 8 a) 42 9 l) := o42_I (o42_I (o42_I o (by decide) (by decide) _) (by decide) (by decide) _) (by decide) (by decide) _
  have w44 : (w.1 42 7).toInt ≤ 44 := by
    rcases st with t | t
    · have := t.1
      omega
    · have := t.2.1
      omega
  rw [q_Sf_meet_173.eq_1] at h ⊢
  refine ⟨fun c => k _ oS (fun _ _ => rfl) (set (by omega) (Or.inr (Or.inl c))) (h.1 c), fun c => ⟨fun d => k _ o (fun _ _ => rfl) (keep (fun q => by omega) (fun q => Or.inl (by omega))) ((h.2 c).1 d), fun d => ⟨fun e => k _ o (fun _ _ => rfl) (keep (fun q => by omega) (fun q => by omega)) (((h.2 c).2 d).1 e), fun e => ⟨fun f => k _ o (fun _ _ => rfl) (keep (fun q => by omega) (fun q => Or.inr ⟨by omega, f⟩)) ((((h.2 c).2 d).2 e).1 f), fun f => k _ oS (fun _ _ => rfl) (set (by omega) (Or.inr (Or.inr ⟨by omega, by omega⟩))) ((((h.2 c).2 d).2 e).2 f)⟩⟩⟩⟩
