/-! the class's meet: all pairs -/
theorem mt_116 {z : MW} {l : Int32} {E E' : MW → Prop} {Q Q' : Int32 → MW → Prop} (hS : ∀ l y, 1 ≤ l → l < 15 → S43 z l y → y < 44) (hE : ∀ x y, E46 z x y → y < 44) (l0 : 1 ≤ l.toInt) (l1 : l.toInt < 15) (k : ∀ w', o42 z w' → (∀ a : Nat, 1 ≤ a → (a : Int) ≤ l.toInt → ∀ x, lb (w'.2.1 45 a) x = true ↔ GC z a x) → Wst z l.toInt l.toInt w' → E w' → E' w') : ∀ (m : Nat) (a : Int32) (w : MW), q_Sf_meet_116 l E Q m a w → 1 ≤ a.toInt → a.toInt ≤ l.toInt → o42 z w → (∀ a : Nat, 1 ≤ a → (a : Int) ≤ l.toInt → ∀ x, lb (w.2.1 45 a) x = true ↔ GC z a x) → Wst z l.toInt a.toInt w → q_Sf_meet_116 l E' Q' m a w := by
  have g44 : ∀ a x : Nat, 1 ≤ a → a < 15 → GC z a x → x < 44 := fun a x h1 h2 h => by
    rcases h with h | h
    · exact hS a x h1 h2 h.2
    · exact rs_min (fun y hy => hS a y h1 h2 hy) (fun _ y _ e => hE _ y e) x h.2
  intro m
  induction m with
  | zero => exact fun _ _ h _ _ _ _ _ => False.elim h
  | succ m ih =>
    intro a w h a0 a1 o fl st
    have e44 : w.1 44 l.toInt.toNat = z.1 44 l.toInt.toNat := o.1 44 _ (by decide)
    have tb := mb_bit (z.1 44 l.toInt.toNat) (n := a.toInt.toNat) (by omega)
    rw [nI_tn (by omega)] at tb
    have ea := ti_add2 (Eq.refl a.toInt) i_1 (by omega) (by omega)
    rw [q_Sf_meet_116.eq_2, e44] at h ⊢
    refine ⟨fun c => k w o fl (by rw [show a.toInt = l.toInt by omega] at st; exact st) (h.1 c), fun c => ?_⟩
    have H := h.2 c
    have nx : ∀ (w' : MW), o42 z w' → (∀ c j, w'.2.1 c j = w.2.1 c j) → Wst z l.toInt (a.toInt + 1) w' → q_Sf_meet_116 l E Q m (a + (1 : Int32)) w' → q_Sf_meet_116 l E' Q' m (a + (1 : Int32)) w' := fun w' o' e' s' g' => ih _ _ g' (by omega) (by omega) o' (fun b b1 b2 x => by rw [e' 45 b]; exact fl b b1 b2 x) (by rw [ea]; exact s')
    have t44 : (44 : Int32).toInt = 44 := by decide
    refine ⟨H.1, fun d => mt_173 l0 l1 a0 (by omega) (by decide) (by decide) (fun _ x q => ?_) (fun q => by omega) st o (H.2.1 d) nx, fun d => ⟨(H.2.2 d).1, (H.2.2 d).2.1, fun d2 => ?_, fun d2 => mt_173 l0 l1 a0 (by omega) (by decide) (by decide) (fun _ x q => ?_) (fun q => by omega) st o ((H.2.2 d).2.2.2 d2) nx⟩⟩
    · have q7 := q.2.2.2.2.2.2
      rw [tb.mp d] at q7
      cases q7
    · have G := (H.2.2 d).2.2.1 d2
      have nz : ¬ ((w.2.1 45 l.toInt.toNat) &&& (w.2.1 45 a.toInt.toNat)) = 0 := fun q => d2 ((cmp_0 _ _).mpr q)
      obtain ⟨b, hb⟩ := low_ex nz
      rw [nz_lo hb] at G ⊢
      have fL := fl l.toInt.toNat (by omega) (by omega)
      have fA := fl a.toInt.toNat (by omega) (by omega)
      have bb := hb.2.1
      rw [lb_and, Bool.and_eq_true, fL b, fA b] at bb
      have b44 := g44 _ b (by omega) (by omega) bb.1
      have tn : (nI b).toInt = (b : Int) := nI_toInt (by omega)
      have mbt : mb (z.1 44 l.toInt.toNat) a.toInt.toNat = true := by
        cases q : mb (z.1 44 l.toInt.toNat) a.toInt.toNat with
        | true => rfl
        | false => exact absurd (tb.mpr q) d
      refine mt_173 l0 l1 a0 (by omega) (by omega) (by omega) (fun q => by omega) (fun _ => ⟨?_, fun x q => ?_⟩) st o G nx
      · rw [show (nI b).toInt.toNat = b by omega]
        exact ⟨b44, by omega, by omega, by omega, bb.2, bb.1, mbt⟩
      · by_cases xb : b ≤ x
        · omega
        · have q2 := hb.2.2 x (by omega)
          rw [lb_and, (fL x).mpr q.2.2.2.2.2.1, (fA x).mpr q.2.2.2.2.1] at q2
          cases q2
    · have q2 := (cmp_0 _ _).mp (Classical.not_not.mp d2)
      have q3 : lb ((w.2.1 45 l.toInt.toNat) &&& (w.2.1 45 a.toInt.toNat)) x = true := by
        rw [lb_and, (fl l.toInt.toNat (by omega) (by omega) x).mpr q.2.2.2.2.2.1, (fl a.toInt.toNat (by omega) (by omega) x).mpr q.2.2.2.2.1]
        rfl
      rw [q2, lb_0] at q3
      cases q3
theorem mt_49z {l : Int32} {E E' : MW → Prop} {Q Q' : Int32 → MW → Prop} (m : Nat) (w : MW) (h : q_Sf_meet_49 l E Q m 0 0 w) (k : E w → E' w) : q_Sf_meet_49 l E' Q' m 0 0 w := by
  cases m with
  | zero => exact False.elim h
  | succ m =>
    rw [q_Sf_meet_49.eq_2] at h ⊢
    have z := (cmp_0 (0 : Int64) 0).mpr rfl
    exact ⟨fun c => absurd c (by decide), fun c => ⟨fun _ => k ((h.2 c).1 z), fun d => absurd z d⟩⟩
theorem mt_8 {z : MW} {E E' : MW → Prop} {Q Q' : Int32 → MW → Prop} (hS : ∀ l y, 1 ≤ l → l < 15 → S43 z l y → y < 44) (hE : ∀ x y, E46 z x y → y < 44) (k : ∀ w', o42 z w' → Wst z 15 1 w' → E w' → E' w') : ∀ (m : Nat) (l : Int32) (w : MW), q_Sf_meet_8 E Q m l w → 1 ≤ l.toInt → l.toInt ≤ 15 → o42 z w → (∀ a : Nat, 1 ≤ a → (a : Int) < l.toInt → ∀ x, lb (w.2.1 45 a) x = true ↔ GC z a x) → Wst z l.toInt 1 w → q_Sf_meet_8 E' Q' m l w := by
  intro m
  induction m with
  | zero => exact fun _ _ h _ _ _ _ _ => False.elim h
  | succ m ih =>
    intro l w h l0 l1 o fl st
    rw [q_Sf_meet_8.eq_2] at h ⊢
    refine ⟨fun c => k w o (by rw [show l.toInt = 15 by omega] at st; exact st) (h.1 c), fun c => ?_⟩
    have H := h.2 c
    have el := ti_add2 (Eq.refl l.toInt) i_1 (by omega) (by omega)
    have e44 : w.1 44 l.toInt.toNat = z.1 44 l.toInt.toNat := o.1 44 _ (by decide)
    have e43 : ∀ j, w.2.1 43 j = z.2.1 43 j := fun j => o.2.1 43 j (by decide)
    have eE : E46 w = E46 z := by
      funext x y
      unfold E46
      rw [o.2.1 46 x (by decide)]
    have eS : S43 w = S43 z := by
      funext a y
      unfold S43
      rw [e43]
    have nxt : ∀ w', o42 z w' → (∀ a : Nat, 1 ≤ a → (a : Int) ≤ l.toInt → ∀ x, lb (w'.2.1 45 a) x = true ↔ GC z a x) → Wst z l.toInt l.toInt w' → q_Sf_meet_8 E Q m (l + (1 : Int32)) w' → q_Sf_meet_8 E' Q' m (l + (1 : Int32)) w' := fun w' o' fl' st' g' => by
      refine ih _ _ g' (by omega) (by omega) o' (fun a a0 a1 x => fl' a a0 (by omega) x) ?_
      rw [el]
      rcases st' with ⟨t7, t⟩ | ⟨t0, t1, t2, t3, t4, t5, t6⟩
      · refine Or.inl ⟨t7, fun x a b hp hb => t x a b ?_ hb⟩
        have := hb.2.1
        have := hb.2.2.1
        unfold prd at *
        omega
      · refine Or.inr ⟨t0, t1, t2, t3, ?_, t5, fun x a b hp hb => t6 x a b ?_ hb⟩
        · unfold prd at *
          omega
        · have := hb.2.1
          have := hb.2.2.1
          unfold prd at *
          omega
    have st1 : ∀ w', (∀ j, w'.1 42 j = w.1 42 j) → Wst z l.toInt 1 w' := fun w' e => by
      unfold Wst
      rw [e 7, e 8, e 9]
      exact st
    refine ⟨H.1, H.2.1, H.2.2.1, fun d => ⟨(H.2.2.2.1 d).1, ?_⟩, fun d => ?_⟩
    · have G := (H.2.2.2.1 d).2
      have hz44 : ¬ (z.1 44 l.toInt.toNat).toInt = 0 := by
        rw [← e44]
        exact d
      refine mt_49 (w0 := w) (w1 := sJ w 45 l.toInt.toNat (w.2.1 43 l.toInt.toNat)) (by omega) (oJ_s (oJ_r _ _) _ _) (by rw [eS]; exact fun y => hS _ y (by omega) (by omega)) (by rw [eE]; exact hE) (fun w' o' oth b' g' => ?_) _ _ _ _ G (by decide) (oJ_r _ _) (fun _ _ => rfl) (fun y hy => by rw [sJ_same]; exact hy) (fun y hy => by rw [sJ_same]; exact hy) (fun x y hx hf => ?_) (fun y hy => ?_) ?_
      · have o2 : o42 z w' := ⟨fun c j hc => by rw [o'.1]; exact o.1 c j hc, fun c j hc => by rw [o'.2.2 c j hc, sJ_at, if_neg (fun q => hc q.1)]; exact o.2.1 c j hc, by rw [o'.2.1]; exact o.2.2.1, fun j hj => by rw [o'.1]; exact o.2.2.2 j hj⟩
        refine mt_116 hS hE l0 (by omega) nxt _ _ _ g' (by decide) (by rw [i_1]; omega) o2 (fun a a0 a1 x => ?_) (by rw [i_1]; exact st1 w' (fun j => by rw [o'.1]; rfl))
        by_cases q : a = l.toInt.toNat
        · rw [q, b' x, eE, eS]
          unfold GC
          constructor
          · intro r
            exact Or.inr ⟨hz44, r⟩
          · intro r
            rcases r with r | r
            · exact absurd r.1 hz44
            · exact r.2
        · rw [oth a q, sJ_if, if_neg q]
          exact fl a a0 (by omega) x
      · rw [sJ_same] at hx
        rw [hx] at hf
        cases hf
      · rw [sJ_same] at hy
        exact rs_src hy
      · rw [i_0]
        omega
    · have G := H.2.2.2.2 d
      have d' := Classical.not_not.mp d
      refine mt_49z _ _ G (fun g' => ?_)
      have o2 : o42 z (sJ w 45 l.toInt.toNat (w.2.1 43 l.toInt.toNat)) := ⟨o.1, fun c j hc => by rw [sJ_at, if_neg (fun q => hc q.1)]; exact o.2.1 c j hc, o.2.2.1, o.2.2.2⟩
      refine mt_116 hS hE l0 (by omega) nxt _ _ _ g' (by decide) (by rw [i_1]; omega) o2 (fun a a0 a1 x => ?_) (by rw [i_1]; exact st1 _ (fun _ => rfl))
      rw [sJ_if]
      by_cases q : a = l.toInt.toNat
      · rw [if_pos q, q, e43]
        unfold GC
        constructor
        · intro r
          exact Or.inl ⟨by rw [← e44]; exact d', r⟩
        · intro r
          rcases r with r | r
          · exact r.2
          · exact absurd (by rw [← e44]; exact d') r.1
      · rw [if_neg q]
        exact fl a a0 (by omega) x
/-- meet: 1 with the first meeting, 0 without any -/
theorem mee_x {w : MW} {Q Q' : Int32 → MW → Prop} (h : p_Sf_meet w Q) (hS : ∀ l y, 1 ≤ l → l < 15 → S43 w l y → y < 44) (hE : ∀ x y, E46 w x y → y < 44) (k0 : ∀ w', o42 w w' → (∀ x a b, ¬ BdG w x a b) → Q 0 w' → Q' 0 w') (k1 : ∀ w', o42 w w' → 0 ≤ (w'.1 42 7).toInt → 0 ≤ (w'.1 42 8).toInt → 0 ≤ (w'.1 42 9).toInt → BdG w (w'.1 42 7).toInt.toNat (w'.1 42 8).toInt.toNat (w'.1 42 9).toInt.toNat → (∀ x a b, BdG w x a b → (w'.1 42 7).toInt.toNat < x ∨ ((w'.1 42 7).toInt.toNat = x ∧ ((w'.1 42 8).toInt.toNat < a ∨ ((w'.1 42 8).toInt.toNat = a ∧ (w'.1 42 9).toInt.toNat ≤ b)))) → Q 1 w' → Q' 1 w') : p_Sf_meet w Q' := by
  have o1 : o42 w (sI w 42 7 44) := o42_I ⟨fun _ _ _ => rfl, fun _ _ _ => rfl, rfl, fun _ _ => rfl⟩ (by decide) (by decide) _
  have t44 : (44 : Int32).toInt = 44 := by decide
  rw [p_Sf_meet.eq_1] at h ⊢
  refine mt_8 hS hE (fun w' o st g => ⟨fun c => ?a, fun c => ?b⟩) _ _ _ h (by decide) (by decide) o1 (fun a a0 a1 => by rw [i_1] at a1; omega) (Or.inl ⟨by rw [sI_same]; exact t44, fun x a b hp hb => ?c⟩)
  case a =>
    rcases st with ⟨t7, t⟩ | ⟨t0, t1, _⟩
    · refine k0 w' o (fun x a b hb => t x a b ?_ hb) (g.1 c)
      have := hb.2.2.2.1
      unfold prd
      omega
    · omega
  case b =>
    rcases st with ⟨t7, t⟩ | ⟨t0, t1, t2, t3, t4, t5, t6⟩
    · omega
    · refine k1 w' o t0 t2 t3 t5 (fun x a b hb => t6 x a b ?_ hb) (g.2 c)
      have := hb.2.2.2.1
      unfold prd
      omega
  case c =>
    have := hb.2.1
    have := hb.2.2.1
    unfold prd at hp
    rw [i_1] at hp
    omega
