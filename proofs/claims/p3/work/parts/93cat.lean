/-! the class takes a way away -/
theorem nar_b0 : vp_nar .boolean (0 : Int32) = 0 := by
  first
    | rfl
    | decide
/-- how way k lies: its pipes pp, the things tt between them -/
def RmH (v : MW) (k n : Nat) (pp tt : Nat → Nat) : Prop := (v.1 31 k).toInt = n ∧ n ≤ 24 ∧ (∀ i, i < n → pp i < 24 ∧ v.1 35 (pp i) = (if i + 1 < n then nI (pp (i + 1)) else -1)) ∧ (∀ i, i + 1 < n → (v.1 13 (v.1 34 (pp i)).toInt.toNat).toInt = tt i) ∧ (∀ i j, i < n → j < n → pp i = pp j → i = j) ∧ (∀ i j, i + 1 < n → j + 1 < n → tt i = tt j → i = j) ∧ v.1 32 k = nI (pp 0)
/-- where a thing stands when no way goes over it any more -/
def xR (v : MW) (u : Int32) (t : Nat) : Int32 := if u.toInt = 0 then (if (v.1 9 t).toInt = 1 then 2 else 0) else v.1 40 t
def RmI (v : MW) (n : Nat) (pp tt : Nat → Nat) (u : Int32) (i : Nat) (w : MW) : Prop := (∀ c j, ¬ c = 16 → ¬ c = 36 → ¬ c = 37 → w.1 c j = v.1 c j) ∧ w.2 = v.2 ∧ (∀ q, ((∃ j, j < i ∧ pp j = q) → w.1 36 q = 0) ∧ ((∀ j, j < i → ¬ pp j = q) → w.1 36 q = v.1 36 q)) ∧ (∀ t, ((∃ j, j < i ∧ j + 1 < n ∧ tt j = t) → w.1 37 t = v.1 37 t - 1 ∧ w.1 16 t = (if (v.1 37 t - 1).toInt = 0 ∧ ¬ (v.1 9 t).toInt = 8 then xR v u t else v.1 16 t)) ∧ ((∀ j, j < i → j + 1 < n → ¬ tt j = t) → w.1 37 t = v.1 37 t ∧ w.1 16 t = v.1 16 t))
theorem rm_36 {v w w' : MW} {pp : Nat → Nat} {i : Nat} (e : ∀ q, w'.1 36 q = if q = pp i then 0 else w.1 36 q) (h : ∀ q, ((∃ j, j < i ∧ pp j = q) → w.1 36 q = 0) ∧ ((∀ j, j < i → ¬ pp j = q) → w.1 36 q = v.1 36 q)) (q : Nat) : ((∃ j, j < i + 1 ∧ pp j = q) → w'.1 36 q = 0) ∧ ((∀ j, j < i + 1 → ¬ pp j = q) → w'.1 36 q = v.1 36 q) := by
  rw [e q]
  refine ⟨fun z => ?_, fun z => ?_⟩
  · obtain ⟨j, hj, ej⟩ := z
    by_cases c : q = pp i
    · rw [if_pos c]
    · rw [if_neg c]
      refine (h q).1 ⟨j, ?_, ej⟩
      by_cases d : j = i
      · exact absurd (by rw [← ej, d]) c
      · omega
  · rw [if_neg (fun c => z i (by omega) c.symm)]
    exact (h q).2 (fun j hj => z j (by omega))
theorem rm_last {v w : MW} {n : Nat} {pp tt : Nat → Nat} {u : Int32} {i : Nat} (hi : ¬ i + 1 < n) (h : RmI v n pp tt u i w) : RmI v n pp tt u (i + 1) (sI w 36 (pp i) 0) := by
  obtain ⟨h1, h2, h3, h4⟩ := h
  refine ⟨fun c j c1 c2 c3 => by rw [sI_oth _ _ _ _ _ _ c2]; exact h1 c j c1 c2 c3, h2, rm_36 (fun q => sI_if _ _ _ _ _) h3, fun t => ?_⟩
  rw [sI_oth _ _ _ _ _ _ (by decide), sI_oth _ _ _ _ _ _ (by decide)]
  refine ⟨fun z => ?_, fun z => (h4 t).2 (fun j hj hn => z j (by omega) hn)⟩
  obtain ⟨j, hj, hn, e⟩ := z
  refine (h4 t).1 ⟨j, ?_, hn, e⟩
  by_cases d : j = i
  · rw [d] at hn
    exact absurd hn hi
  · omega
theorem rm_mid {v w w' : MW} {n : Nat} {pp tt : Nat → Nat} {u : Int32} {i : Nat} (inj : ∀ a b, a + 1 < n → b + 1 < n → tt a = tt b → a = b) (hi : i + 1 < n) (h : RmI v n pp tt u i w) (o : ∀ c j, ¬ c = 16 → ¬ c = 36 → ¬ c = 37 → w'.1 c j = w.1 c j) (o2 : w'.2 = w.2) (e36 : ∀ q, w'.1 36 q = if q = pp i then 0 else w.1 36 q) (e37 : ∀ t, w'.1 37 t = if t = tt i then w.1 37 (tt i) - 1 else w.1 37 t) (e16 : ∀ t, w'.1 16 t = if t = tt i then (if (v.1 37 (tt i) - 1).toInt = 0 ∧ ¬ (v.1 9 (tt i)).toInt = 8 then xR v u (tt i) else v.1 16 (tt i)) else w.1 16 t) : RmI v n pp tt u (i + 1) w' := by
  obtain ⟨h1, h2, h3, h4⟩ := h
  have self := (h4 (tt i)).2 (fun j hj hn e => by have := inj j i hn hi e; omega)
  refine ⟨fun c j c1 c2 c3 => by rw [o c j c1 c2 c3]; exact h1 c j c1 c2 c3, by rw [o2]; exact h2, rm_36 e36 h3, fun t => ?_⟩
  rw [e37 t, e16 t]
  refine ⟨fun z => ?_, fun z => ?_⟩
  · obtain ⟨j, hj, hn, e⟩ := z
    by_cases c : t = tt i
    · rw [if_pos c, if_pos c, c, self.1]
      exact ⟨rfl, rfl⟩
    · rw [if_neg c, if_neg c]
      refine (h4 t).1 ⟨j, ?_, hn, e⟩
      by_cases d : j = i
      · exact absurd (by rw [← e, d]) c
      · omega
  · have c : ¬ t = tt i := fun c => z i (by omega) hi c.symm
    rw [if_neg c, if_neg c]
    exact (h4 t).2 (fun j hj hn => z j (by omega) hn)
theorem rm_a {v w : MW} {n : Nat} {pp tt : Nat → Nat} {u : Int32} {i : Nat} (inj : ∀ a b, a + 1 < n → b + 1 < n → tt a = tt b → a = b) (hi : i + 1 < n) (h : RmI v n pp tt u i w) (c : ¬ ((v.1 37 (tt i) - 1).toInt = 0 ∧ ¬ (v.1 9 (tt i)).toInt = 8)) : RmI v n pp tt u (i + 1) (sI (sI w 36 (pp i) 0) 37 (tt i) (w.1 37 (tt i) - 1)) := by
  have self := (h.2.2.2 (tt i)).2 (fun j hj hn e => by have := inj j i hn hi e; omega)
  refine rm_mid inj hi h (fun c' j c1 c2 c3 => by rw [sI_oth _ _ _ _ _ _ c3, sI_oth _ _ _ _ _ _ c2]) rfl (fun q => ?_) (fun t => ?_) (fun t => ?_)
  · rw [sI_oth _ _ _ _ _ _ (by decide), sI_if]
  · rw [sI_if, sI_oth _ _ _ _ _ _ (by decide)]
  · rw [sI_oth _ _ _ _ _ _ (by decide), sI_oth _ _ _ _ _ _ (by decide), if_neg c]
    by_cases q : t = tt i
    · rw [if_pos q, q]
      exact self.2
    · rw [if_neg q]
theorem rm_b {v w : MW} {n : Nat} {pp tt : Nat → Nat} {u : Int32} {i : Nat} (inj : ∀ a b, a + 1 < n → b + 1 < n → tt a = tt b → a = b) (hi : i + 1 < n) (h : RmI v n pp tt u i w) (c : (v.1 37 (tt i) - 1).toInt = 0 ∧ ¬ (v.1 9 (tt i)).toInt = 8) {x : Int32} (ex : x = xR v u (tt i)) : RmI v n pp tt u (i + 1) (sI (sI (sI w 36 (pp i) 0) 37 (tt i) (w.1 37 (tt i) - 1)) 16 (tt i) x) := by
  refine rm_mid inj hi h (fun c' j c1 c2 c3 => by rw [sI_oth _ _ _ _ _ _ c1, sI_oth _ _ _ _ _ _ c3, sI_oth _ _ _ _ _ _ c2]) rfl (fun q => ?_) (fun t => ?_) (fun t => ?_)
  · rw [sI_oth _ _ _ _ _ _ (by decide), sI_oth _ _ _ _ _ _ (by decide), sI_if]
  · rw [sI_oth _ _ _ _ _ _ (by decide), sI_if, sI_oth _ _ _ _ _ _ (by decide)]
  · rw [sI_if, if_pos c, ex]
    by_cases q : t = tt i
    · rw [if_pos q, if_pos q]
    · rw [if_neg q, if_neg q, sI_oth _ _ _ _ _ _ (by decide), sI_oth _ _ _ _ _ _ (by decide)]
theorem rmv_19 {v : MW} {k u : Int32} {n : Nat} {pp tt : Nat → Nat} {E E' Q Q' : MW → Prop} (H : RmH v k.toInt.toNat n pp tt) (kE : ∀ w', RmI v n pp tt u n w' → E w' → E' w') : ∀ (m : Nat) (p4 x : Int32) (i : Nat) (w : MW), q_Wa_remove_19 k u E Q m p4 x w → x.toInt = i → i ≤ n → (i < n → p4 = nI (pp i)) → RmI v n pp tt u i w → q_Wa_remove_19 k u E' Q' m p4 x w := by
  obtain ⟨e31, n24, h35, h13, injp, injt, _⟩ := H
  intro m
  induction m with
  | zero => exact fun _ _ _ _ h _ _ _ _ => False.elim h
  | succ m ih =>
    intro p4 x i w h xe ile pe inv
    have r := inv.1
    have r31 : w.1 31 k.toInt.toNat = v.1 31 k.toInt.toNat := r 31 _ (by decide) (by decide) (by decide)
    have ex := ti_add2 xe i_1 (by omega) (by omega)
    rw [q_Wa_remove_19.eq_2, nar_b0] at h ⊢
    refine ⟨h.1, fun c => ?_, fun c => ?_⟩
    · rw [r31] at c
      have e : i = n := by omega
      refine kE w ?_ (h.2.1 (by rw [r31]; exact c))
      rw [e] at inv
      exact inv
    · have c' := c
      rw [r31] at c'
      have hi : i < n := by omega
      have P := h35 i hi
      have pt : p4.toInt = pp i := by
        rw [pe hi]
        exact nI_toInt (by omega)
      have pn : p4.toInt.toNat = pp i := by omega
      have G := h.2.2 c
      rw [pn] at G ⊢
      have e35 : w.1 35 (pp i) = v.1 35 (pp i) := r 35 _ (by decide) (by decide) (by decide)
      refine ⟨fun d => by omega, fun d => ?_⟩
      have G2 := G.2 d
      refine ⟨G2.1, G2.2.1, fun e => ?_, fun e => ?_⟩
      · have ln : ¬ i + 1 < n := fun q => by
          have q2 := P.2
          rw [if_pos q] at q2
          rw [e35, q2, nI_toInt (by have := (h35 (i + 1) q).1; omega)] at e
          omega
        exact ⟨(G2.2.2.1 e).1, ih _ _ (i + 1) _ (G2.2.2.1 e).2 (by omega) (by omega) (fun z => absurd z ln) (rm_last ln inv)⟩
      · have hn : i + 1 < n := Classical.not_not.mp (fun q => by
          have q2 := P.2
          rw [if_neg q] at q2
          rw [e35, q2] at e
          exact e (by decide))
        have nx : w.1 35 (pp i) = nI (pp (i + 1)) := by
          rw [e35, P.2, if_pos hn]
        have K := G2.2.2.2 e
        have r34 : w.1 34 (pp i) = v.1 34 (pp i) := r 34 _ (by decide) (by decide) (by decide)
        have eT : (w.1 13 ((w.1 34 (pp i)).toInt.toNat)).toInt.toNat = tt i := by
          rw [r34, r 13 _ (by decide) (by decide) (by decide)]
          have := h13 i hn
          omega
        have self := (inv.2.2.2 (tt i)).2 (fun j hj hjn e' => by have := injt j i hjn hn e'; omega)
        have r9 : w.1 9 (tt i) = v.1 9 (tt i) := r 9 _ (by decide) (by decide) (by decide)
        have r40 : w.1 40 (tt i) = v.1 40 (tt i) := r 40 _ (by decide) (by decide) (by decide)
        rw [eT, sI_same] at K ⊢
        have nxt : ∀ (w' : MW), RmI v n pp tt u (i + 1) w' → q_Wa_remove_19 k u E Q m (w.1 35 (pp i)) (x + (1 : Int32)) w' → q_Wa_remove_19 k u E' Q' m (w.1 35 (pp i)) (x + (1 : Int32)) w' := fun w' hw g => ih _ _ (i + 1) w' g (by omega) (by omega) (fun _ => nx) hw
        refine ⟨K.1, K.2.1, K.2.2.1, K.2.2.2.1, K.2.2.2.2.1, fun c1 => ⟨(K.2.2.2.2.2.1 c1).1, nxt _ (rm_a injt hn inv (fun z => c1 (by rw [self.1]; exact z.1))) (K.2.2.2.2.2.1 c1).2⟩, fun c1 => ?_⟩
        have c1' : (v.1 37 (tt i) - 1).toInt = 0 := by
          have := Classical.not_not.mp c1
          rw [self.1] at this
          exact this
        have L := K.2.2.2.2.2.2 c1
        refine ⟨L.1, fun c2 => ⟨(L.2.1 c2).1, nxt _ (rm_a injt hn inv (fun z => z.2 (by rw [← r9]; exact c2))) (L.2.1 c2).2⟩, fun c2 => ?_⟩
        have c2' : ¬ (v.1 9 (tt i)).toInt = 8 := by rw [← r9]; exact c2
        have M := L.2.2 c2
        refine ⟨fun c3 => ⟨(M.1 c3).1, fun c4 => ⟨((M.1 c3).2.1 c4).1, ((M.1 c3).2.1 c4).2.1, nxt _ (rm_b injt hn inv ⟨c1', c2'⟩ ?_) ((M.1 c3).2.1 c4).2.2⟩, fun c4 => ⟨((M.1 c3).2.2 c4).1, ((M.1 c3).2.2 c4).2.1, nxt _ (rm_b injt hn inv ⟨c1', c2'⟩ ?_) ((M.1 c3).2.2 c4).2.2⟩⟩, fun c3 => ⟨(M.2 c3).1, (M.2 c3).2.1, (M.2 c3).2.2.1, nxt _ (rm_b injt hn inv ⟨c1', c2'⟩ ?_) (M.2 c3).2.2.2⟩⟩
        · unfold xR
          rw [if_pos c3, if_neg (by rw [← r9]; exact c4)]
        · unfold xR
          rw [if_pos c3, if_pos (by rw [← r9]; exact Classical.not_not.mp c4)]
        · unfold xR
          rw [if_neg c3]
          exact r40
/-- rows of ways move up by one from k on -/
def shC (c : Nat) : Bool := c == 27 || c == 28 || c == 29 || c == 30 || c == 31 || c == 32 || c == 33
def ShI (v : MW) (k x : Nat) (w : MW) : Prop := w.2 = v.2 ∧ (∀ c j, shC c = false → w.1 c j = v.1 c j) ∧ ∀ c j, shC c = true → w.1 c j = if k ≤ j ∧ j < x then v.1 c (j + 1) else v.1 c j
theorem sh_c {c : Nat} (h : shC c = true) : c = 27 ∨ c = 28 ∨ c = 29 ∨ c = 30 ∨ c = 31 ∨ c = 32 ∨ c = 33 := by
  unfold shC at h
  simp only [Bool.or_eq_true, beq_iff_eq] at h
  omega
theorem sh_168 {v : MW} {k : Nat} {E E' Q Q' : MW → Prop} (kE : ∀ w', ShI v k (v.1 26 1).toInt.toNat w' → E w' → E' w') : ∀ (m : Nat) (x : Int32) (w : MW), q_Wa_remove_168 E Q m x w → (k : Int) ≤ x.toInt → x.toInt ≤ (v.1 26 1).toInt → ShI v k x.toInt.toNat w → q_Wa_remove_168 E' Q' m x w := by
  intro m
  induction m with
  | zero => exact fun _ _ h _ _ _ => False.elim h
  | succ m ih =>
    intro x w h kx xn inv
    have r26 : w.1 26 1 = v.1 26 1 := inv.2.1 26 1 rfl
    rw [q_Wa_remove_168.eq_2, r26] at h ⊢
    refine ⟨fun c => kE w ?_ (h.1 c), fun c => ?_⟩
    · have e : x.toInt.toNat = (v.1 26 1).toInt.toNat := by omega
      rw [e] at inv
      exact inv
    · have H := h.2 c
      have xb := H.2.1
      have ex := ti_add2 (Eq.refl x.toInt) i_1 (by omega) (by omega)
      have en : (x + (1 : Int32)).toInt.toNat = x.toInt.toNat + 1 := by omega
      rw [en] at H ⊢
      refine ⟨H.1, H.2.1, H.2.2.1, H.2.2.2.1, H.2.2.2.2.1, H.2.2.2.2.2.1, H.2.2.2.2.2.2.1, H.2.2.2.2.2.2.2.1, H.2.2.2.2.2.2.2.2.1, H.2.2.2.2.2.2.2.2.2.1, H.2.2.2.2.2.2.2.2.2.2.1, H.2.2.2.2.2.2.2.2.2.2.2.1, H.2.2.2.2.2.2.2.2.2.2.2.2.1, H.2.2.2.2.2.2.2.2.2.2.2.2.2.1, ih _ _ H.2.2.2.2.2.2.2.2.2.2.2.2.2.2 (by omega) (by omega) ?_⟩
      rw [en]
      refine ⟨inv.1, fun c' j hc => ?_, fun c' j hc => ?_⟩
      · have n : ∀ i : Nat, shC i = true → ¬ c' = i := fun i hi e => by rw [e, hi] at hc; cases hc
        rw [sI_oth _ _ _ _ _ _ (n 33 rfl), sI_oth _ _ _ _ _ _ (n 32 rfl), sI_oth _ _ _ _ _ _ (n 31 rfl), sI_oth _ _ _ _ _ _ (n 30 rfl), sI_oth _ _ _ _ _ _ (n 29 rfl), sI_oth _ _ _ _ _ _ (n 28 rfl), sI_oth _ _ _ _ _ _ (n 27 rfl)]
        exact inv.2.1 c' j hc
      · have g : ∀ y : Int32, y = w.1 c' (x.toInt.toNat + 1) → (if j = x.toInt.toNat then y else w.1 c' j) = if k ≤ j ∧ j < x.toInt.toNat + 1 then v.1 c' (j + 1) else v.1 c' j := fun y hy => by
          have i1 := inv.2.2 c' j hc
          have i2 := inv.2.2 c' (x.toInt.toNat + 1) hc
          by_cases q : j = x.toInt.toNat
          · rw [if_pos q, if_pos ⟨by omega, by omega⟩, hy, i2, if_neg (fun z => by have := z.2; omega), q]
          · rw [if_neg q, i1]
            by_cases q2 : k ≤ j ∧ j < x.toInt.toNat
            · rw [if_pos q2, if_pos ⟨q2.1, by omega⟩]
            · rw [if_neg q2, if_neg (fun z => q2 ⟨z.1, by omega⟩)]
        rcases sh_c hc with e | e | e | e | e | e | e
        all_goals
          subst e
          rw [← g _ rfl]
          simp only [sI_at]
          by_cases q : j = x.toInt.toNat
          · simp [q]
          · simp [q]
/-- what is left behind remove -/
def RmC (v : MW) (k n : Nat) (pp tt : Nat → Nat) (u : Int32) (v' : MW) : Prop := ∃ w : MW, RmI v n pp tt u n w ∧ ShI (sI w 26 1 ((w.1 26 1) - (1 : Int32))) k ((w.1 26 1) - (1 : Int32)).toInt.toNat v'
theorem rm_x {v : MW} {k u : Int32} {n : Nat} {pp tt : Nat → Nat} {Q Q' : MW → Prop} (h : p_Wa_remove v k u Q) (H : RmH v k.toInt.toNat n pp tt) (n1 : 1 ≤ n) (k0 : 0 ≤ k.toInt) (k1 : k.toInt < (v.1 26 1).toInt) (kQ : ∀ v', RmC v k.toInt.toNat n pp tt u v' → Q v' → Q' v') : p_Wa_remove v k u Q' := by
  rw [p_Wa_remove.eq_1] at h ⊢
  have hb := h.2.1
  refine ⟨h.1, h.2.1, rmv_19 H (fun w inv g => ?_) _ _ _ 0 _ h.2.2 i_0 (by omega) (fun _ => H.2.2.2.2.2.2) ⟨fun _ _ _ _ _ => rfl, rfl, fun q => ⟨fun z => ?_, fun _ => rfl⟩, fun t => ⟨fun z => ?_, fun _ => ⟨rfl, rfl⟩⟩⟩⟩
  · have r26 : w.1 26 1 = v.1 26 1 := inv.1 26 1 (by decide) (by decide) (by decide)
    have e26 : (sI w 26 1 ((w.1 26 1) - (1 : Int32))).1 26 1 = (w.1 26 1) - (1 : Int32) := sI_same _ _ _ _
    have es : ((w.1 26 1) - (1 : Int32)).toInt = (v.1 26 1).toInt - 1 := by
      rw [r26]
      exact ti_sub2 rfl i_1 (by omega) (by omega)
    refine sh_168 (v := sI w 26 1 ((w.1 26 1) - (1 : Int32))) (k := k.toInt.toNat) (fun v' sh g2 => kQ v' ⟨w, inv, ?_⟩ g2) _ _ _ g (by omega) (by rw [e26]; omega) ⟨rfl, fun _ _ _ => rfl, fun c j _ => ?_⟩
    · rw [e26] at sh
      exact sh
    · rw [if_neg (fun z => by have := z.1; have := z.2; omega)]
  · obtain ⟨j, hj, _⟩ := z
    omega
  · obtain ⟨j, hj, _⟩ := z
    omega
/-! the reference closes a way -/
/-- way k alone holds thing t, a valve -/
def clT (z : MW) (k t : Nat) : Prop := ¬ (z.1 187 (20 * k + t)).toInt = -1 ∧ 2 ≤ (z.1 163 t).toInt ∧ ∀ k' : Nat, (k' : Int) < (z.1 127 26).toInt → ¬ k' = k → (z.1 187 (20 * k' + t)).toInt = -1
def clX (z : MW) (t : Nat) : Int32 := if (z.1 163 t).toInt = 3 then 2 else 0
def ClI (z : MW) (k x : Nat) (w : MW) : Prop := w.2 = z.2 ∧ (∀ c j, ¬ c = 167 → ¬ c = 187 → w.1 c j = z.1 c j) ∧ (∀ j, w.1 187 j = if 20 * k ≤ j ∧ j < 20 * k + x then -1 else z.1 187 j) ∧ ∀ t, (t < x ∧ clT z k t → w.1 167 t = clX z t) ∧ (¬ (t < x ∧ clT z k t) → w.1 167 t = z.1 167 t)
theorem cl_st {z w w' : MW} {k x : Nat} (h : ClI z k x w) (o2 : w'.2 = w.2) (o : ∀ c j, ¬ c = 167 → ¬ c = 187 → w'.1 c j = w.1 c j) (e187 : ∀ j, w'.1 187 j = if j = 20 * k + x then -1 else w.1 187 j) (e1 : clT z k x → w'.1 167 x = clX z x) (e2 : ¬ clT z k x → w'.1 167 x = w.1 167 x) (e3 : ∀ t, ¬ t = x → w'.1 167 t = w.1 167 t) : ClI z k (x + 1) w' := by
  obtain ⟨h1, h2, h3, h4⟩ := h
  refine ⟨o2.trans h1, fun c j c1 c2 => (o c j c1 c2).trans (h2 c j c1 c2), fun j => ?_, fun t => ?_⟩
  · rw [e187 j, h3 j]
    by_cases q : j = 20 * k + x
    · rw [if_pos q, if_pos ⟨by omega, by omega⟩]
    · rw [if_neg q]
      by_cases q2 : 20 * k ≤ j ∧ j < 20 * k + x
      · rw [if_pos q2, if_pos ⟨q2.1, by omega⟩]
      · rw [if_neg q2, if_neg (fun z2 => q2 ⟨z2.1, by omega⟩)]
  · by_cases q : t = x
    · rw [q]
      refine ⟨fun z2 => e1 z2.2, fun z2 => ?_⟩
      rw [e2 (fun c => z2 ⟨by omega, c⟩)]
      exact (h4 x).2 (fun c => by have := c.1; omega)
    · rw [e3 t q]
      exact ⟨fun z2 => (h4 t).1 ⟨by have := z2.1; omega, z2.2⟩, fun z2 => (h4 t).2 (fun c => z2 ⟨by have := c.1; omega, c.2⟩)⟩
theorem clo_40 {z : MW} {k x y : Int32} {w : MW} {A A' : Int32 → MW → Prop} {E E' Q Q' : MW → Prop} (h : q_Mo_close_40 k x y w A E Q) (k0 : 0 ≤ k.toInt) (k1 : k.toInt < 24) (x0 : 0 ≤ x.toInt) (x1 : x.toInt < 20) (n24 : (z.1 127 26).toInt ≤ 24) (kn : k.toInt < (z.1 127 26).toInt) (inv : ClI z k.toInt.toNat x.toInt.toNat w) (ey : ¬ y.toInt = 0 ↔ (¬ (z.1 187 (20 * k.toInt.toNat + x.toInt.toNat)).toInt = -1 ∧ 2 ≤ (z.1 163 x.toInt.toNat).toInt)) (kA : ∀ w', ClI z k.toInt.toNat (x.toInt.toNat + 1) w' → A (x + (1 : Int32)) w' → A' (x + (1 : Int32)) w') : q_Mo_close_40 k x y w A' E' Q' := by
  have m1 := ti_mul2 (by decide : ((20 : Int32)).toInt = 20) (Eq.refl k.toInt) (by omega) (by omega)
  have m2 := ti_add2 m1 (Eq.refl x.toInt) (by omega) (by omega)
  have m3 : (((20 : Int32) * k) + x).toInt.toNat = 20 * k.toInt.toNat + x.toInt.toNat := by omega
  rw [q_Mo_close_40.eq_1, m3] at h ⊢
  have o1 : ∀ c j, ¬ c = 167 → ¬ c = 187 → (sI w 187 (20 * k.toInt.toNat + x.toInt.toNat) (-1)).1 c j = w.1 c j := fun c j _ c2 => sI_oth _ _ _ _ _ _ c2
  have e187 : ∀ j, (sI w 187 (20 * k.toInt.toNat + x.toInt.toNat) (-1)).1 187 j = if j = 20 * k.toInt.toNat + x.toInt.toNat then -1 else w.1 187 j := fun j => sI_if _ _ _ _ _
  have r26 : (sI w 187 (20 * k.toInt.toNat + x.toInt.toNat) (-1)).1 127 26 = z.1 127 26 := by
    rw [sI_oth _ _ _ _ _ _ (by decide)]
    exact inv.2.1 127 26 (by decide) (by decide)
  have r163 : w.1 163 x.toInt.toNat = z.1 163 x.toInt.toNat := inv.2.1 163 _ (by decide) (by decide)
  have oth : ∀ k' : Nat, ¬ k' = k.toInt.toNat → (sI w 187 (20 * k.toInt.toNat + x.toInt.toNat) (-1)).1 187 (20 * k' + x.toInt.toNat) = z.1 187 (20 * k' + x.toInt.toNat) := fun k' hk => by
    rw [e187, if_neg (by omega), inv.2.2.1, if_neg (fun q => by have := q.1; have := q.2; omega)]
  refine ⟨h.1, fun c => kA _ (cl_st inv rfl o1 e187 (fun ct => absurd (ey.mpr ⟨ct.1, ct.2.1⟩) (fun q => q c)) (fun _ => sI_oth _ _ _ _ _ _ (by decide)) (fun t _ => sI_oth _ _ _ _ _ _ (by decide))) (h.2.1 c), fun c => ?_⟩
  have Y := ey.mp c
  refine hd_x (h.2.2 c) x0 x1 (by rw [r26]; exact n24) (fun r hd g => ⟨fun d => ?_, fun d => ?_⟩)
  · rcases hd with ⟨e, _⟩ | ⟨_, k', hk', er⟩
    · rw [e] at d
      exact absurd (by decide) d
    · rw [r26] at hk'
      have nk : ¬ k' = k.toInt.toNat := fun e => by
        rw [er, e, e187, if_pos (by omega)] at d
        exact d (by decide)
      have n' : ¬ clT z k.toInt.toNat x.toInt.toNat := fun ct => by
        rw [er, show ((x.toInt).toNat : Nat) = x.toInt.toNat from rfl, oth k' nk] at d
        exact d (ct.2.2 k' hk' nk)
      exact kA _ (cl_st inv rfl o1 e187 (fun ct => absurd ct n') (fun _ => sI_oth _ _ _ _ _ _ (by decide)) (fun t _ => sI_oth _ _ _ _ _ _ (by decide))) (g.1 d)
  · rcases hd with ⟨_, un⟩ | ⟨e, _⟩
    · have ct : clT z k.toInt.toNat x.toInt.toNat := ⟨Y.1, Y.2, fun k' hk' nk => by
        have q := un k' (by rw [r26]; exact hk')
        rw [oth k' nk] at q
        exact q⟩
      have G := g.2 d
      have r163' : (sI w 187 (20 * k.toInt.toNat + x.toInt.toNat) (-1)).1 163 x.toInt.toNat = z.1 163 x.toInt.toNat := by
        rw [sI_oth _ _ _ _ _ _ (by decide)]
        exact r163
      rw [r163'] at G ⊢
      have fin : ∀ y : Int32, y = clX z x.toInt.toNat → ClI z k.toInt.toNat (x.toInt.toNat + 1) (sI (sI w 187 (20 * k.toInt.toNat + x.toInt.toNat) (-1)) 167 x.toInt.toNat y) := fun y hy => by
        refine cl_st inv rfl (fun c' j c1 c2 => by rw [sI_oth _ _ _ _ _ _ c1]; exact o1 c' j c1 c2) (fun j => by rw [sI_oth _ _ _ _ _ _ (by decide)]; exact e187 j) (fun _ => by rw [sI_same]; exact hy) (fun n' => absurd ct n') (fun t nt => ?_)
        rw [sI_ne _ _ _ _ _ nt, sI_oth _ _ _ _ _ _ (by decide)]
      refine ⟨G.1, fun e => ⟨(G.2.1 e).1, kA _ (fin 0 ?_) (G.2.1 e).2⟩, fun e => ⟨(G.2.2 e).1, kA _ (fin 2 ?_) (G.2.2 e).2⟩⟩
      · unfold clX
        rw [if_neg e]
      · unfold clX
        rw [if_pos (Classical.not_not.mp e)]
    · exact absurd (Classical.not_not.mp d) e
theorem clo_2 {z : MW} {k : Int32} {E E' Q Q' : MW → Prop} (T : 0 ≤ tM z ∧ tM z ≤ 20) (k0 : 0 ≤ k.toInt) (k1 : k.toInt < 24) (n24 : (z.1 127 26).toInt ≤ 24) (kn : k.toInt < (z.1 127 26).toInt) (kE : ∀ w, ClI z k.toInt.toNat (tM z).toNat w → E w → E' w) : ∀ (m : Nat) (x : Int32) (w : MW), q_Mo_close_2 k E Q m x w → 0 ≤ x.toInt → x.toInt ≤ tM z → ClI z k.toInt.toNat x.toInt.toNat w → q_Mo_close_2 k E' Q' m x w := by
  intro m
  induction m with
  | zero => exact fun _ _ h _ _ _ => False.elim h
  | succ m ih =>
    intro x w h x0 xT inv
    have r4 : w.1 127 4 = z.1 127 4 := inv.2.1 127 4 (by decide) (by decide)
    have eT : (z.1 127 4).toInt = tM z := rfl
    rw [q_Mo_close_2.eq_2, r4, eT] at h ⊢
    refine ⟨fun c => kE w ?_ (h.1 c), fun c => ?_⟩
    · have e : x.toInt.toNat = (tM z).toNat := by omega
      rw [e] at inv
      exact inv
    · have ex := ti_add2 (Eq.refl x.toInt) i_1 (by omega) (by omega)
      have m1 := ti_mul2 (by decide : ((20 : Int32)).toInt = 20) (Eq.refl k.toInt) (by omega) (by omega)
      have m2 := ti_add2 m1 (Eq.refl x.toInt) (by omega) (by omega)
      have m3 : (((20 : Int32) * k) + x).toInt.toNat = 20 * k.toInt.toNat + x.toInt.toNat := by omega
      have H := h.2 c
      have r187 : w.1 187 (20 * k.toInt.toNat + x.toInt.toNat) = z.1 187 (20 * k.toInt.toNat + x.toInt.toNat) := by
        rw [inv.2.2.1, if_neg (fun q => by have := q.2; omega)]
      have r163 : w.1 163 x.toInt.toNat = z.1 163 x.toInt.toNat := inv.2.1 163 _ (by decide) (by decide)
      rw [m3, r187, r163] at H ⊢
      have nxt : ∀ w', ClI z k.toInt.toNat (x.toInt.toNat + 1) w' → q_Mo_close_2 k E Q m (x + (1 : Int32)) w' → q_Mo_close_2 k E' Q' m (x + (1 : Int32)) w' := fun w' i' g => ih _ w' g (by omega) (by omega) (by rw [show (x + (1 : Int32)).toInt.toNat = x.toInt.toNat + 1 by omega]; exact i')
      refine ⟨H.1, fun d => clo_40 (H.2.1 d) k0 k1 x0 (by omega) n24 kn inv ⟨fun q => absurd i_0 q, fun q => absurd d q.1⟩ nxt, fun d => ⟨(H.2.2 d).1, fun e => clo_40 ((H.2.2 d).2.1 e) k0 k1 x0 (by omega) n24 kn inv ⟨fun q => absurd i_0 q, fun q => by have := q.2; omega⟩ nxt, fun e => clo_40 ((H.2.2 d).2.2 e) k0 k1 x0 (by omega) n24 kn inv ⟨fun _ => ⟨d, by omega⟩, fun _ => by decide⟩ nxt⟩⟩
/-- rows of ways move up by one from k on -/
def msC (c : Nat) : Bool := c == 181 || c == 182 || c == 183 || c == 184 || c == 185
theorem ms_c {c : Nat} (h : msC c = true) : c = 181 ∨ c = 182 ∨ c = 183 ∨ c = 184 ∨ c = 185 := by
  unfold msC at h
  simp only [Bool.or_eq_true, beq_iff_eq] at h
  omega
/-- a rows of numbers, b entries, d holds have moved -/
def MsI (z : MW) (k a b d : Nat) (w : MW) : Prop := w.2 = z.2 ∧ (∀ c j, msC c = false → ¬ c = 186 → ¬ c = 187 → w.1 c j = z.1 c j) ∧ (∀ c j, msC c = true → w.1 c j = if k ≤ j ∧ j < a then z.1 c (j + 1) else z.1 c j) ∧ (∀ j, w.1 186 j = if 24 * k ≤ j ∧ j < b then z.1 186 (j + 24) else z.1 186 j) ∧ ∀ j, w.1 187 j = if 20 * k ≤ j ∧ j < d then z.1 187 (j + 20) else z.1 187 j
theorem ms_177 {z : MW} {k a d : Nat} {x : Int32} {E E' Q Q' : MW → Prop} (x0 : 0 ≤ x.toInt) (x1 : x.toInt < 23) (kx : (k : Int) ≤ x.toInt) (kE : ∀ w, MsI z k a (24 * x.toInt.toNat + 24) d w → E w → E' w) : ∀ (m : Nat) (i : Int32) (w : MW), q_Mo_close_177 x E Q m i w → 0 ≤ i.toInt → i.toInt ≤ 24 → MsI z k a (24 * x.toInt.toNat + i.toInt.toNat) d w → q_Mo_close_177 x E' Q' m i w := by
  intro m
  induction m with
  | zero => exact fun _ _ h _ _ _ => False.elim h
  | succ m ih =>
    intro i w h i0 i1 inv
    rw [q_Mo_close_177.eq_2] at h ⊢
    refine ⟨fun c => kE w ?_ (h.1 c), fun c => ?_⟩
    · rw [show i.toInt.toNat = 24 by omega] at inv
      exact inv
    · have H := h.2 c
      have ei := ti_add2 (Eq.refl i.toInt) i_1 (by omega) (by omega)
      have ex := ti_add2 (Eq.refl x.toInt) i_1 (by omega) (by omega)
      have m1 := ti_mul2 (by decide : ((24 : Int32)).toInt = 24) (Eq.refl x.toInt) (by omega) (by omega)
      have m2 := ti_add2 m1 (Eq.refl i.toInt) (by omega) (by omega)
      have m3 : (((24 : Int32) * x) + i).toInt.toNat = 24 * x.toInt.toNat + i.toInt.toNat := by omega
      have n1 := ti_mul2 (by decide : ((24 : Int32)).toInt = 24) ex (by omega) (by omega)
      have n2 := ti_add2 n1 (Eq.refl i.toInt) (by omega) (by omega)
      have n3 : (((24 : Int32) * (x + (1 : Int32))) + i).toInt.toNat = 24 * x.toInt.toNat + i.toInt.toNat + 24 := by omega
      rw [m3, n3] at H ⊢
      refine ⟨H.1, H.2.1, ih _ _ H.2.2 (by omega) (by omega) ?_⟩
      rw [show (i + (1 : Int32)).toInt.toNat = i.toInt.toNat + 1 by omega]
      obtain ⟨v1, v2, v3, v4, v5⟩ := inv
      refine ⟨v1, fun c' j c1 c2 c3 => by rw [sI_oth _ _ _ _ _ _ c2]; exact v2 c' j c1 c2 c3, fun c' j c1 => ?_, fun j => ?_, fun j => by rw [sI_oth _ _ _ _ _ _ (by decide)]; exact v5 j⟩
      · rw [sI_oth _ _ _ _ _ _ (fun e => by rw [e] at c1; cases c1)]
        exact v3 c' j c1
      · rw [sI_if]
        by_cases q : j = 24 * x.toInt.toNat + i.toInt.toNat
        · rw [if_pos q, v4, if_neg (fun z2 => by have := z2.2; omega), if_pos ⟨by omega, by omega⟩, q]
        · rw [if_neg q, v4 j]
          by_cases q2 : 24 * k ≤ j ∧ j < 24 * x.toInt.toNat + i.toInt.toNat
          · rw [if_pos q2, if_pos ⟨q2.1, by omega⟩]
          · rw [if_neg q2, if_neg (fun z2 => q2 ⟨z2.1, by omega⟩)]
theorem ms_215 {z : MW} {k a b : Nat} {x : Int32} {E E' Q Q' : MW → Prop} (x0 : 0 ≤ x.toInt) (x1 : x.toInt < 23) (kx : (k : Int) ≤ x.toInt) (kE : ∀ w, MsI z k a b (20 * x.toInt.toNat + 20) w → E w → E' w) : ∀ (m : Nat) (i : Int32) (w : MW), q_Mo_close_215 x E Q m i w → 0 ≤ i.toInt → i.toInt ≤ 20 → MsI z k a b (20 * x.toInt.toNat + i.toInt.toNat) w → q_Mo_close_215 x E' Q' m i w := by
  intro m
  induction m with
  | zero => exact fun _ _ h _ _ _ => False.elim h
  | succ m ih =>
    intro i w h i0 i1 inv
    rw [q_Mo_close_215.eq_2] at h ⊢
    refine ⟨fun c => kE w ?_ (h.1 c), fun c => ?_⟩
    · rw [show i.toInt.toNat = 20 by omega] at inv
      exact inv
    · have H := h.2 c
      have ei := ti_add2 (Eq.refl i.toInt) i_1 (by omega) (by omega)
      have ex := ti_add2 (Eq.refl x.toInt) i_1 (by omega) (by omega)
      have m1 := ti_mul2 (by decide : ((20 : Int32)).toInt = 20) (Eq.refl x.toInt) (by omega) (by omega)
      have m2 := ti_add2 m1 (Eq.refl i.toInt) (by omega) (by omega)
      have m3 : (((20 : Int32) * x) + i).toInt.toNat = 20 * x.toInt.toNat + i.toInt.toNat := by omega
      have n1 := ti_mul2 (by decide : ((20 : Int32)).toInt = 20) ex (by omega) (by omega)
      have n2 := ti_add2 n1 (Eq.refl i.toInt) (by omega) (by omega)
      have n3 : (((20 : Int32) * (x + (1 : Int32))) + i).toInt.toNat = 20 * x.toInt.toNat + i.toInt.toNat + 20 := by omega
      rw [m3, n3] at H ⊢
      refine ⟨H.1, H.2.1, ih _ _ H.2.2 (by omega) (by omega) ?_⟩
      rw [show (i + (1 : Int32)).toInt.toNat = i.toInt.toNat + 1 by omega]
      obtain ⟨v1, v2, v3, v4, v5⟩ := inv
      refine ⟨v1, fun c' j c1 c2 c3 => by rw [sI_oth _ _ _ _ _ _ c3]; exact v2 c' j c1 c2 c3, fun c' j c1 => ?_, fun j => by rw [sI_oth _ _ _ _ _ _ (by decide)]; exact v4 j, fun j => ?_⟩
      · rw [sI_oth _ _ _ _ _ _ (fun e => by rw [e] at c1; cases c1)]
        exact v3 c' j c1
      · rw [sI_if]
        by_cases q : j = 20 * x.toInt.toNat + i.toInt.toNat
        · rw [if_pos q, v5, if_neg (fun z2 => by have := z2.2; omega), if_pos ⟨by omega, by omega⟩, q]
        · rw [if_neg q, v5 j]
          by_cases q2 : 20 * k ≤ j ∧ j < 20 * x.toInt.toNat + i.toInt.toNat
          · rw [if_pos q2, if_pos ⟨q2.1, by omega⟩]
          · rw [if_neg q2, if_neg (fun z2 => q2 ⟨z2.1, by omega⟩)]
theorem ms_95 {z : MW} {k : Nat} {E E' Q Q' : MW → Prop} (n24 : (z.1 127 26).toInt ≤ 24) (kE : ∀ w, MsI z k ((z.1 127 26).toInt.toNat - 1) (24 * ((z.1 127 26).toInt.toNat - 1)) (20 * ((z.1 127 26).toInt.toNat - 1)) w → E w → E' w) : ∀ (m : Nat) (x : Int32) (w : MW), q_Mo_close_95 E Q m x w → (k : Int) ≤ x.toInt → x.toInt < (z.1 127 26).toInt → MsI z k x.toInt.toNat (24 * x.toInt.toNat) (20 * x.toInt.toNat) w → q_Mo_close_95 E' Q' m x w := by
  intro m
  induction m with
  | zero => exact fun _ _ h _ _ _ => False.elim h
  | succ m ih =>
    intro x w h kx xn inv
    have r26 : w.1 127 26 = z.1 127 26 := inv.2.1 127 26 rfl (by decide) (by decide)
    have ex := ti_add2 (Eq.refl x.toInt) i_1 (by omega) (by omega)
    rw [q_Mo_close_95.eq_2, r26] at h ⊢
    refine ⟨fun c => kE w ?_ (h.1 c), fun c => ?_⟩
    · rw [show x.toInt.toNat = (z.1 127 26).toInt.toNat - 1 by omega] at inv
      exact inv
    · have H := h.2 c
      have en : (x + (1 : Int32)).toInt.toNat = x.toInt.toNat + 1 := by omega
      rw [en] at H ⊢
      refine ⟨H.1, H.2.1, H.2.2.1, H.2.2.2.1, H.2.2.2.2.1, H.2.2.2.2.2.1, H.2.2.2.2.2.2.1, H.2.2.2.2.2.2.2.1, H.2.2.2.2.2.2.2.2.1, H.2.2.2.2.2.2.2.2.2.1, ?_⟩
      have K := H.2.2.2.2.2.2.2.2.2.2
      obtain ⟨v1, v2, v3, v4, v5⟩ := inv
      refine ms_177 (z := z) (k := k) (a := x.toInt.toNat + 1) (d := 20 * x.toInt.toNat) (by omega) (by omega) kx (fun w1 i1 g1 => ms_215 (by omega) (by omega) kx (fun w2 i2 g2 => ih _ _ g2 (by omega) (by omega) ?_) _ _ _ g1 (by decide) (by decide) (by rw [i_0]; exact i1)) _ _ _ K (by decide) (by decide) ?_
      · rw [en, show 24 * (x.toInt.toNat + 1) = 24 * x.toInt.toNat + 24 by omega, show 20 * (x.toInt.toNat + 1) = 20 * x.toInt.toNat + 20 by omega]
        exact i2
      · rw [i_0]
        refine ⟨v1, fun c' j c1 c2 c3 => ?_, fun c' j c1 => ?_, fun j => ?_, fun j => ?_⟩
        · have n : ∀ i : Nat, msC i = true → ¬ c' = i := fun i hi e => by rw [e, hi] at c1; cases c1
          rw [sI_oth _ _ _ _ _ _ (n 185 rfl), sI_oth _ _ _ _ _ _ (n 184 rfl), sI_oth _ _ _ _ _ _ (n 183 rfl), sI_oth _ _ _ _ _ _ (n 182 rfl), sI_oth _ _ _ _ _ _ (n 181 rfl)]
          exact v2 c' j c1 c2 c3
        · have g : ∀ y : Int32, y = w.1 c' (x.toInt.toNat + 1) → (if j = x.toInt.toNat then y else w.1 c' j) = if k ≤ j ∧ j < x.toInt.toNat + 1 then z.1 c' (j + 1) else z.1 c' j := fun y hy => by
            have i1 := v3 c' j c1
            have i2 := v3 c' (x.toInt.toNat + 1) c1
            by_cases q : j = x.toInt.toNat
            · rw [if_pos q, if_pos ⟨by omega, by omega⟩, hy, i2, if_neg (fun z => by have := z.2; omega), q]
            · rw [if_neg q, i1]
              by_cases q2 : k ≤ j ∧ j < x.toInt.toNat
              · rw [if_pos q2, if_pos ⟨q2.1, by omega⟩]
              · rw [if_neg q2, if_neg (fun z => q2 ⟨z.1, by omega⟩)]
          rcases ms_c c1 with e | e | e | e | e
          all_goals
            subst e
            rw [← g _ rfl]
            simp only [sI_at]
            by_cases q : j = x.toInt.toNat
            · simp [q]
            · simp [q]
        · rw [sI_oth _ _ _ _ _ _ (by decide), sI_oth _ _ _ _ _ _ (by decide), sI_oth _ _ _ _ _ _ (by decide), sI_oth _ _ _ _ _ _ (by decide), sI_oth _ _ _ _ _ _ (by decide)]
          exact v4 j
        · rw [sI_oth _ _ _ _ _ _ (by decide), sI_oth _ _ _ _ _ _ (by decide), sI_oth _ _ _ _ _ _ (by decide), sI_oth _ _ _ _ _ _ (by decide), sI_oth _ _ _ _ _ _ (by decide)]
          exact v5 j
/-- what is left behind close -/
def ClM (z : MW) (k : Nat) (w' : MW) : Prop := ∃ w1 w2 : MW, ClI z k (tM z).toNat w1 ∧ MsI w1 k ((z.1 127 26).toInt.toNat - 1) (24 * ((z.1 127 26).toInt.toNat - 1)) (20 * ((z.1 127 26).toInt.toNat - 1)) w2 ∧ w' = sI w2 127 26 ((w2.1 127 26) - (1 : Int32))
theorem mcl2_x {w : MW} {k : Int32} {Q Q' : MW → Prop} (h : p_Mo_close w k Q) (T : 0 ≤ tM w ∧ tM w ≤ 20) (k0 : 0 ≤ k.toInt) (k1 : k.toInt < (w.1 127 26).toInt) (n24 : (w.1 127 26).toInt ≤ 24) (kQ : ∀ w', ClM w k.toInt.toNat w' → Q w' → Q' w') : p_Mo_close w k Q' := by
  rw [p_Mo_close.eq_1] at h ⊢
  refine clo_2 T k0 (by omega) n24 k1 (fun w1 i1 g => ?_) _ _ _ h (by decide) (by rw [i_0]; exact T.1) ⟨rfl, fun _ _ _ _ => rfl, fun j => ?_, fun t => ⟨fun q => ?_, fun _ => rfl⟩⟩
  · have r26 : w1.1 127 26 = w.1 127 26 := i1.2.1 127 26 (by decide) (by decide)
    refine ms_95 (z := w1) (k := k.toInt.toNat) (by rw [r26]; exact n24) (fun w2 i2 g2 => kQ _ ⟨w1, w2, i1, ?_, rfl⟩ g2) _ _ _ g (by omega) (by rw [r26]; exact k1) ⟨rfl, fun _ _ _ _ _ => rfl, fun c j _ => ?_, fun j => ?_, fun j => ?_⟩
    · rw [r26] at i2
      exact i2
    · rw [if_neg (fun q => by have := q.1; have := q.2; omega)]
    · rw [if_neg (fun q => by have := q.1; have := q.2; omega)]
    · rw [if_neg (fun q => by have := q.1; have := q.2; omega)]
  · rw [i_0, if_neg (fun q => by have := q.1; have := q.2; omega)]
  · have := q.1
    rw [i_0] at this
    omega
/-! a way is closed: the house stays one -/
theorem ctb_s (f : Nat → Bool) (n : Nat) : ctb f (n + 1) = ctb f n + (if f n = true then 1 else 0) := rfl
theorem ctb_n (f : Nat → Bool) : ∀ n, ctb f n ≤ n := by
  intro n
  induction n with
  | zero => exact Nat.le_refl _
  | succ n ih =>
    rw [ctb_s]
    by_cases q : f n = true
    · rw [if_pos q]
      omega
    · rw [if_neg q]
      omega
/-- one is left out -/
def sg (k j : Nat) : Nat := if j < k then j else j + 1
theorem ctb_sh (f : Nat → Bool) (k : Nat) : ∀ n, k ≤ n → ctb (fun j => f (sg k j)) n + (if f k = true then 1 else 0) = ctb f (n + 1) := by
  intro n
  induction n with
  | zero =>
    intro h
    rw [show k = 0 by omega, ctb_s]
    rfl
  | succ n ih =>
    intro h
    by_cases q : k ≤ n
    · rw [ctb_s (fun j => f (sg k j)) n, ctb_s f (n + 1), ← ih q]
      have e : sg k n = n + 1 := if_neg (by omega)
      show ctb (fun j => f (sg k j)) n + (if f (sg k n) = true then 1 else 0) + _ = _
      rw [e]
      omega
    · have e : k = n + 1 := by omega
      rw [ctb_s f (n + 1), e]
      congr 1
      exact ctb_same _ (fun x hx => by
        show f (sg (n + 1) x) = f x
        rw [show sg (n + 1) x = x from if_pos (by omega)])
theorem ctb_0 {f : Nat → Bool} : ∀ n, ctb f n = 0 → ∀ x, x < n → f x = false := by
  intro n
  induction n with
  | zero => exact fun _ x hx => by omega
  | succ n ih =>
    intro h x hx
    rw [ctb_s] at h
    by_cases q : f n = true
    · rw [if_pos q] at h
      omega
    · rw [if_neg q] at h
      by_cases e : x = n
      · rw [e]
        exact Bool.eq_false_iff.mpr q
      · exact ih (by omega) x (by omega)
def lCw : Pl := [(16, none), (26, some 1), (27, none), (28, none), (29, none), (30, none), (31, none), (32, none), (33, none), (36, none), (37, none), (127, some 26), (167, none), (181, none), (182, none), (183, none), (184, none), (185, none), (186, none), (187, none)]
/-- way k is gone: N are left -/
def CwF (z z' : MW) (k N : Nat) : Prop := (∀ m : Pl, off lCw m = true → Ag m z z') ∧ z'.1 26 1 = z'.1 127 26 ∧ (z'.1 127 26).toInt = N ∧ N + 1 = nwy z ∧ k ≤ N ∧ (∀ c j, shC c = true ∨ msC c = true → j < N → z'.1 c j = z.1 c (sg k j)) ∧ (∀ j i, j < N → i < 24 → z'.1 186 (24 * j + i) = z.1 186 (24 * sg k j + i)) ∧ (∀ j i, j < N → i < 20 → z'.1 187 (20 * j + i) = z.1 187 (20 * sg k j + i)) ∧ (∀ p, ((∃ i, i < wln z k ∧ ent z k i / 2 = p) → z'.1 36 p = 0) ∧ ((∀ i, i < wln z k → ¬ ent z k i / 2 = p) → z'.1 36 p = z.1 36 p)) ∧ (∀ t, ((∃ i, i + 1 < wln z k ∧ (atM z (ent z k (i + 1))).toNat = t) → z'.1 37 t = z.1 37 t - 1 ∧ z'.1 16 t = (if (z.1 37 t - 1).toInt = 0 ∧ ¬ (z.1 9 t).toInt = 8 then (if (z.1 9 t).toInt = 1 then 2 else 0) else z.1 16 t)) ∧ ((∀ i, i + 1 < wln z k → ¬ (atM z (ent z k (i + 1))).toNat = t) → z'.1 37 t = z.1 37 t ∧ z'.1 16 t = z.1 16 t)) ∧ (∀ t : Nat, (t : Int) < tM z → (clT z k t → z'.1 167 t = clX z t) ∧ (¬ clT z k t → z'.1 167 t = z.1 167 t))
theorem sg_lt {k N j : Nat} (hj : j < N) : sg k j < N + 1 ∧ ¬ sg k j = k := by
  unfold sg
  by_cases q : j < k
  · rw [if_pos q]
    omega
  · rw [if_neg q]
    omega
theorem sg_i {k a b : Nat} (h : sg k a = sg k b) : a = b := by
  unfold sg at h
  by_cases q : a < k
  · rw [if_pos q] at h
    by_cases q2 : b < k
    · rw [if_pos q2] at h
      exact h
    · rw [if_neg q2] at h
      omega
  · rw [if_neg q] at h
    by_cases q2 : b < k
    · rw [if_pos q2] at h
      omega
    · rw [if_neg q2] at h
      omega
theorem sg_on {k N x : Nat} (hx : x < N + 1) (nx : ¬ x = k) (hk : k ≤ N) : ∃ j, j < N ∧ sg k j = x := by
  by_cases q : x < k
  · exact ⟨x, by omega, if_pos q⟩
  · refine ⟨x - 1, by omega, ?_⟩
    unfold sg
    rw [if_neg (by omega)]
    omega
/-- where the things of way k stand and are counted -/
theorem cw_t {z z' : MW} {k N : Nat} (P : pM z ≤ 24) (T : 0 ≤ tM z ∧ tM z ≤ 20) (hp : HPl z) (hy : HWy z) (f : CwF z z' k N) {t : Nat} (ht : (t : Int) < tM z) : (z'.1 37 t).toInt = ctb (hldB z' t) N ∧ z'.1 16 t = z'.1 167 t ∧ ((∃ j, j < N ∧ hldB z' t j = true) → z'.1 167 t = z.1 167 t) := by
  obtain ⟨ag, f1, f2, f3, f4, f5, f6, f7, f8, f9, f10⟩ := f
  obtain ⟨hy1, hy2, hy3, hy4, hy5, hy6⟩ := hy
  have n := w_n hy1
  have kn : k < nwy z := by omega
  have e37 := hy5.2.2 t ht
  have hs : ∀ j, j < N → hldB z' t j = hldB z t (sg k j) := fun j hj => by
    unfold hldB
    rw [f7 j t hj (by omega)]
  have cs : ctb (hldB z' t) N = ctb (fun j => hldB z t (sg k j)) N := ctb_same _ hs
  have sh := ctb_sh (hldB z t) k N f4
  rw [f3] at sh
  have le := ctb_n (hldB z t) (nwy z)
  have on : hldB z t k = true ↔ ∃ i, i + 1 < wln z k ∧ (atM z (ent z k (i + 1))).toNat = t := by
    unfold hldB
    rw [decide_eq_true_iff, hy5.1 k t kn ht]
    constructor
    · intro q
      obtain ⟨i, q1, q2⟩ := q
      exact ⟨i, q1, by omega⟩
    · intro q
      obtain ⟨i, q1, q2⟩ := q
      exact ⟨i, q1, by have := ((hy4 k kn).2.2.1 i q1).2.1; omega⟩
  have kd := hp.1.2.2.1 t ht
  by_cases q : ∃ i, i + 1 < wln z k ∧ (atM z (ent z k (i + 1))).toNat = t
  · have hk : hldB z t k = true := on.mpr q
    rw [if_pos hk] at sh
    have F := (f9 t).1 q
    have em : (z.1 37 t - 1).toInt = (z.1 37 t).toInt - 1 := ti_sub2 rfl i_1 (by omega) (by omega)
    have ntk : ¬ (z.1 163 t).toInt = 0 := by
      obtain ⟨i, q1, q2⟩ := q
      have D := (hy4 k kn).2.2.1 i q1
      have e : (atM z (ent z k (i + 1))) = (t : Int) := by omega
      have D2 := D.2.2
      rw [e] at D2
      exact D2
    have kk : ((z.1 9 t).toInt = 8 ↔ ¬ 2 ≤ (z.1 163 t).toInt) ∧ (2 ≤ (z.1 163 t).toInt → ((z.1 9 t).toInt = 1 ↔ (z.1 163 t).toInt = 3)) := by
      have e := kd.2.1
      unfold kC kmp at e
      have b := kd.1
      by_cases c1 : (z.1 163 t).toInt = 1
      · rw [if_neg ntk, if_pos c1] at e
        omega
      · rw [if_neg ntk, if_neg c1] at e
        omega
    have ones : (z.1 37 t - 1).toInt = 0 ↔ ∀ k' : Nat, (k' : Int) < (z.1 127 26).toInt → ¬ k' = k → (z.1 187 (20 * k' + t)).toInt = -1 := by
      constructor
      · intro e k' hk' nk
        have z0 : ctb (fun j => hldB z t (sg k j)) N = 0 := by omega
        obtain ⟨j, hj, ej⟩ := sg_on (k := k) (N := N) (x := k') (by omega) nk f4
        have q3 := ctb_0 N z0 j hj
        rw [ej] at q3
        unfold hldB at q3
        exact Classical.not_not.mp (of_decide_eq_false q3)
      · intro al
        have z0 : ctb (fun j => hldB z t (sg k j)) N = 0 := ctb_z _ (fun j hj => by
          have s := sg_lt (k := k) hj
          unfold hldB
          exact decide_eq_false (fun c => c (al (sg k j) (by omega) s.2)))
        omega
    have ct : clT z k t ↔ ((z.1 37 t - 1).toInt = 0 ∧ ¬ (z.1 9 t).toInt = 8) := by
      unfold clT
      rw [ones, kk.1]
      have hk' : ¬ (z.1 187 (20 * k + t)).toInt = -1 := by
        unfold hldB at hk
        exact of_decide_eq_true hk
      constructor
      · intro c
        exact ⟨c.2.2, fun c2 => c2 c.2.1⟩
      · intro c
        exact ⟨hk', Classical.not_not.mp c.2, c.1⟩
    refine ⟨?_, ?_, fun ex => ?_⟩
    · rw [F.1, cs]
      omega
    · rw [F.2]
      by_cases c : (z.1 37 t - 1).toInt = 0 ∧ ¬ (z.1 9 t).toInt = 8
      · rw [if_pos c, (f10 t ht).1 (ct.mpr c)]
        unfold clX
        have v2 : 2 ≤ (z.1 163 t).toInt := (ct.mpr c).2.1
        have k2 := kk.2 v2
        by_cases c3 : (z.1 9 t).toInt = 1
        · rw [if_pos c3, if_pos (k2.mp c3)]
        · rw [if_neg c3, if_neg (fun c4 => c3 (k2.mpr c4))]
      · rw [if_neg c, (f10 t ht).2 (fun c2 => c (ct.mp c2))]
        exact kd.2.2
    · refine (f10 t ht).2 (fun c => ?_)
      obtain ⟨j, hj, ej⟩ := ex
      have s := sg_lt (k := k) hj
      rw [hs j hj] at ej
      unfold hldB at ej
      exact (of_decide_eq_true ej) (c.2.2 (sg k j) (by omega) s.2)
  · have hk : ¬ hldB z t k = true := fun c => q (on.mp c)
    rw [if_neg hk] at sh
    have F := (f9 t).2 (fun i hi e => q ⟨i, hi, e⟩)
    have nc : ¬ clT z k t := fun c => by
      refine hk ?_
      unfold hldB
      exact decide_eq_true c.1
    have e167 := (f10 t ht).2 nc
    refine ⟨?_, ?_, fun _ => e167⟩
    · rw [F.1, cs]
      omega
    · rw [F.2, e167]
      exact kd.2.2
theorem cw_wy {z z' : MW} {k N : Nat} (P : pM z ≤ 24) (T : 0 ≤ tM z ∧ tM z ≤ 20) (hp : HPl z) (hy : HWy z) (f : CwF z z' k N) : HWy z' := by
  have ct := fun (t : Nat) (ht : (t : Int) < tM z) => cw_t P T hp hy f ht
  obtain ⟨ag, f1, f2, f3, f4, f5, f6, f7, f8, f9, f10⟩ := f
  obtain ⟨hy1, hy2, hy3, hy4, hy5, hy6⟩ := hy
  have n := w_n hy1
  obtain ⟨m1, m2, m3, m4⟩ := tM_m (ag lPm rfl)
  have nn : nwy z' = N := by
    unfold nwy
    omega
  have sn : ∀ j, j < N → sg k j < nwy z := fun j hj => by
    have := (sg_lt (k := k) hj).1
    omega
  have fl : ∀ j, j < N → wln z' j = wln z (sg k j) := fun j hj => by
    unfold wln
    rw [f5 185 j (Or.inr rfl) hj]
  have l24 : ∀ j, j < N → wln z (sg k j) ≤ 24 := fun j hj => (w_l hy1 (sn j hj)).2.2
  have fe : ∀ j i, j < N → i < wln z (sg k j) → ent z' j i = ent z (sg k j) i := fun j i hj hi => by
    unfold ent
    rw [f6 j i hj (by have := l24 j hj; omega)]
  have on : ∀ p, onN z' p ↔ ∃ j i, j < N ∧ i < wln z (sg k j) ∧ ent z (sg k j) i / 2 = p := fun p => by
    unfold onN
    rw [nn]
    constructor
    · intro q
      obtain ⟨j, i, hj, hi, e⟩ := q
      rw [fl j hj] at hi
      rw [fe j i hj hi] at e
      exact ⟨j, i, hj, hi, e⟩
    · intro q
      obtain ⟨j, i, hj, hi, e⟩ := q
      exact ⟨j, i, hj, by rw [fl j hj]; exact hi, by rw [fe j i hj hi]; exact e⟩
  refine ⟨?_, ?_, ?_, ?_, ?_, ?_⟩
  · unfold WRa
    rw [nn, m1, m4]
    refine ⟨f1, by omega, by omega, fun j hj => ?_⟩
    rw [f5 27 j (Or.inl rfl) hj, f5 28 j (Or.inl rfl) hj, f5 29 j (Or.inl rfl) hj, f5 30 j (Or.inl rfl) hj, f5 31 j (Or.inl rfl) hj, f5 181 j (Or.inr rfl) hj, f5 182 j (Or.inr rfl) hj, f5 183 j (Or.inr rfl) hj, f5 184 j (Or.inr rfl) hj, f5 185 j (Or.inr rfl) hj]
    exact hy1.2.2.2 (sg k j) (sn j hj)
  · unfold WRb
    rw [nn, m2]
    intro j hj
    have B := hy2 (sg k j) (sn j hj)
    have l1 := (w_l hy1 (sn j hj)).2.1
    rw [fl j hj, f5 32 j (Or.inl rfl) hj, f5 33 j (Or.inl rfl) hj, fe j 0 hj (by omega), fe j _ hj (by omega)]
    refine ⟨fun i hi => ?_, B.2⟩
    have B1 := B.1 i hi
    rw [f6 j i hj (by have := l24 j hj; omega), fe j i hj hi, ag [(34, none)] rfl 34 _ rfl, ag [(35, none)] rfl 35 _ rfl]
    refine ⟨B1.1, B1.2.1, ?_⟩
    rw [B1.2.2]
    by_cases c : i + 1 < wln z (sg k j)
    · rw [if_pos c, if_pos c, fe j (i + 1) hj c]
    · rw [if_neg c, if_neg c]
  · unfold WRc
    rw [nn, m2]
    refine ⟨fun p hp' => ?_, fun a i b i' ha hi hb hi' e => ?_⟩
    · rw [on p]
      by_cases q : ∃ i, i < wln z k ∧ ent z k i / 2 = p
      · rw [(f8 p).1 q]
        refine ⟨fun _ c => ?_, fun _ => i_0⟩
        obtain ⟨i, hi, e⟩ := q
        obtain ⟨j, i', hj, hi', e'⟩ := c
        have := (hy3.2 (sg k j) i' k i (sn j hj) hi' (by omega) hi (by rw [e', e])).1
        exact (sg_lt (k := k) hj).2 this
      · rw [(f8 p).2 (fun i hi e => q ⟨i, hi, e⟩), hy3.1 p hp']
        constructor
        · intro c d
          obtain ⟨j, i, hj, hi, e⟩ := d
          exact c ⟨sg k j, i, sn j hj, hi, e⟩
        · intro c d
          obtain ⟨x, i, hx, hi, e⟩ := d
          by_cases xk : x = k
          · rw [xk] at hi e
            exact q ⟨i, hi, e⟩
          · obtain ⟨j, hj, ej⟩ := sg_on (k := k) (N := N) (x := x) (by omega) xk f4
            exact c ⟨j, i, hj, by rw [ej]; exact hi, by rw [ej]; exact e⟩
    · rw [fl a ha] at hi
      rw [fl b hb] at hi'
      rw [fe a i ha hi, fe b i' hb hi'] at e
      have r := hy3.2 _ _ _ _ (sn a ha) hi (sn b hb) hi' e
      exact ⟨sg_i r.1, r.2⟩
  · unfold WRd
    rw [nn, m3, m4]
    intro j hj
    have D := hy4 (sg k j) (sn j hj)
    have l1 := (w_l hy1 (sn j hj)).2.1
    rw [fl j hj, f5 181 j (Or.inr rfl) hj, f5 182 j (Or.inr rfl) hj, fe j 0 hj (by omega), fe j _ hj (by omega)]
    refine ⟨D.1, D.2.1, fun i hi => ?_, fun a b ha hb e => ?_⟩
    · rw [fe j i hj (by omega), fe j (i + 1) hj hi]
      exact D.2.2.1 i hi
    · rw [fe j (a + 1) hj ha, fe j (b + 1) hj hb] at e
      exact D.2.2.2 a b ha hb e
  · unfold WRe
    rw [nn, m1, m3]
    refine ⟨fun j t hj ht => ?_, fun j t hj ht n1 k2 => ?_, fun t ht => (ct t ht).1⟩
    · rw [f7 j t hj (by omega), fl j hj, hy5.1 (sg k j) t (sn j hj) ht]
      constructor
      · intro q
        obtain ⟨i, q1, q2⟩ := q
        exact ⟨i, q1, by rw [fe j (i + 1) hj q1]; exact q2⟩
      · intro q
        obtain ⟨i, q1, q2⟩ := q
        rw [fe j (i + 1) hj q1] at q2
        exact ⟨i, q1, q2⟩
    · rw [m1] at ht
      have hj' : j < N := by omega
      have held : hldB z' t j = true := by
        unfold hldB
        exact decide_eq_true n1
      rw [(ct t ht).2.2 ⟨j, hj', held⟩]
      rw [f7 j t hj' (by omega)] at n1 ⊢
      rw [ag [(163, none)] rfl 163 t rfl] at k2
      exact hy5.2.1 (sg k j) t (by have := sn j hj'; omega) ht n1 k2
  · unfold WRf
    rw [nn, m1]
    intro j i hj hi
    rw [fl j hj] at hi
    rw [fe j i hj hi, f5 183 j (Or.inr rfl) hj, ag [(17, none)] rfl 17 _ rfl]
    exact hy6 (sg k j) i (sn j hj) hi
theorem cw_hr {z z' : MW} {k N : Nat} (P : pM z ≤ 24) (T : 0 ≤ tM z ∧ tM z ≤ 20) (hr : HRq z) (f : CwF z z' k N) (h20 : ∀ j, z'.2.1 20 j = z.2.1 20 j) : HRq z' := ⟨HPl_p (f.1 lP0 rfl) (fun t ht => (cw_t P T hr.1 hr.2.2.2 f ht).2.1) hr.1, HTb_ag (f.1 lTq rfl) hr.2.1, HSk_p (f.1 lPm rfl) (f.1 lSk rfl) h20 hr.2.2.1, cw_wy P T hr.1 hr.2.2.2 f⟩
/-! a way is closed: what each side leaves -/
theorem RmH_g {v z : MW} {k n : Nat} {pp tt : Nat → Nat} (e : ∀ c j, c < 127 → v.1 c j = z.1 c j) (h : RmH z k n pp tt) : RmH v k n pp tt := by
  unfold RmH at h ⊢
  rw [e 31 k (by decide), e 32 k (by decide)]
  refine ⟨h.1, h.2.1, fun i hi => ?_, fun i hi => ?_, h.2.2.2.2.1, h.2.2.2.2.2.1, h.2.2.2.2.2.2⟩
  · rw [e 35 _ (by decide)]
    exact h.2.2.1 i hi
  · rw [e 34 _ (by decide), e 13 _ (by decide)]
    exact h.2.2.2.1 i hi
theorem rmh_z {z : MW} {k : Nat} (P : 0 ≤ pM z ∧ pM z ≤ 24) (hp : HPl z) (hy : HWy z) (hk : k < nwy z) : RmH z k (wln z k) (fun i => ent z k i / 2) (fun i => (atM z (ent z k (i + 1))).toNat) := by
  obtain ⟨hy1, hy2, hy3, hy4, _⟩ := hy
  have l := w_l hy1 hk
  refine ⟨by rw [(hy1.2.2.2 k hk).1.2.2.2.2]; exact l.1.symm, l.2.2, fun i hi => ⟨by have := (w_e hy2 hk hi).2; show ent z k i / 2 < 24; omega, ((hy2 k hk).1 i hi).2.2⟩, fun i hi => ?_, fun i j hi hj e => (hy3.2 k i k j hk hi hk hj e).2, fun i j hi hj e => ?_, (hy2 k hk).2.1⟩
  · show (z.1 13 (z.1 34 (ent z k i / 2)).toInt.toNat).toInt = (((atM z (ent z k (i + 1))).toNat : Nat) : Int)
    have E := (w_e hy2 hk (show i < wln z k by omega)).2
    have X := xo_lt (e := ent z k i) (N := (pM z).toNat) (by omega)
    have A : (z.1 13 (xo (ent z k i))).toInt = atM z (xo (ent z k i)) := (hp.1.2.2.2 (xo (ent z k i)) (by omega)).1
    have D := (hy4 k hk).2.2.1 i hi
    rw [((hy2 k hk).1 i (by omega)).2.1, nI_toInt (by omega), show (((xo (ent z k i) : Nat) : Int)).toNat = xo (ent z k i) by omega, A, D.1]
    have := D.2.1
    omega
  · have D1 := ((hy4 k hk).2.2.1 i hi).2.1
    have D2 := ((hy4 k hk).2.2.1 j hj).2.1
    have e' : (atM z (ent z k (i + 1))).toNat = (atM z (ent z k (j + 1))).toNat := e
    exact (hy4 k hk).2.2.2 i j hi hj (by omega)
theorem cw_read {v w v' w' : MW} {k : Nat} (hr : HRq (mx v w)) (hk : k < nwy (mx v w)) (T : 0 ≤ tM w ∧ tM w ≤ 20) (rc : RmC v k (wln (mx v w) k) (fun i => ent (mx v w) k i / 2) (fun i => (atM (mx v w) (ent (mx v w) k (i + 1))).toNat) 0 v') (cm : ClM w k w') : CwF (mx v w) (mx v' w') k (nwy (mx v w) - 1) := by
  obtain ⟨w0, ri, sh⟩ := rc
  obtain ⟨w1, w2, ci, mi, e⟩ := cm
  have nz := w_n hr.2.2.2.1
  have n26 : (w.1 127 26).toInt = nwy (mx v w) := by
    have q := nz.1
    rw [mx_m _ _ (by decide)] at q
    exact q.symm
  have v26 : v.1 26 1 = w.1 127 26 := hr.2.2.2.1.1
  have r26 : w0.1 26 1 = v.1 26 1 := ri.1 26 1 (by decide) (by decide) (by decide)
  have es : ((w0.1 26 1) - (1 : Int32)).toInt = (nwy (mx v w) : Int) - 1 := by
    rw [r26, v26]
    exact ti_sub2 n26 i_1 (by omega) (by omega)
  have r126 : w2.1 127 26 = w.1 127 26 := by
    rw [mi.2.1 127 26 rfl (by decide) (by decide)]
    exact ci.2.1 127 26 (by decide) (by decide)
  have em : ((w2.1 127 26) - (1 : Int32)).toInt = (nwy (mx v w) : Int) - 1 := by
    rw [r126]
    exact ti_sub2 n26 i_1 (by omega) (by omega)
  have eN : ((w0.1 26 1) - (1 : Int32)).toInt.toNat = nwy (mx v w) - 1 := by omega
  have eN2 : (w.1 127 26).toInt.toNat - 1 = nwy (mx v w) - 1 := by omega
  rw [eN] at sh
  rw [eN2] at mi
  have c1 : ∀ c j, shC c = false → ¬ c = 16 → ¬ c = 36 → ¬ c = 37 → ¬ (c = 26 ∧ j = 1) → v'.1 c j = v.1 c j := fun c j h1 h2 h3 h4 h5 => by
    rw [sh.2.1 c j h1, sI_at, if_neg h5]
    exact ri.1 c j h2 h3 h4
  have c2 : ∀ c j, shC c = true → v'.1 c j = if k ≤ j ∧ j < nwy (mx v w) - 1 then v.1 c (j + 1) else v.1 c j := fun c j h1 => by
    have q := sh_c h1
    rw [sh.2.2 c j h1, sI_oth _ _ _ _ _ _ (by omega), sI_oth _ _ _ _ _ _ (by omega), ri.1 c _ (by omega) (by omega) (by omega), ri.1 c _ (by omega) (by omega) (by omega)]
  have c3 : ∀ c j, (c = 16 ∨ c = 36 ∨ c = 37) → v'.1 c j = w0.1 c j := fun c j h1 => by
    rw [sh.2.1 c j (by rcases h1 with h1 | h1 | h1 <;> (rw [h1]; rfl)), sI_oth _ _ _ _ _ _ (by omega)]
  have d1 : ∀ c j, msC c = false → ¬ c = 186 → ¬ c = 187 → ¬ c = 167 → ¬ (c = 127 ∧ j = 26) → w'.1 c j = w.1 c j := fun c j h1 h2 h3 h4 h5 => by
    rw [e, sI_at, if_neg h5, mi.2.1 c j h1 h2 h3]
    exact ci.2.1 c j h4 h3
  have d2 : ∀ c j, msC c = true → w'.1 c j = if k ≤ j ∧ j < nwy (mx v w) - 1 then w.1 c (j + 1) else w.1 c j := fun c j h1 => by
    have q := ms_c h1
    rw [e, sI_oth _ _ _ _ _ _ (by omega), mi.2.2.1 c j h1, ci.2.1 c _ (by omega) (by omega), ci.2.1 c _ (by omega) (by omega)]
  have d3 : ∀ j, w'.1 186 j = if 24 * k ≤ j ∧ j < 24 * (nwy (mx v w) - 1) then w.1 186 (j + 24) else w.1 186 j := fun j => by
    rw [e, sI_oth _ _ _ _ _ _ (by decide), mi.2.2.2.1 j, ci.2.1 186 _ (by decide) (by decide), ci.2.1 186 _ (by decide) (by decide)]
  have d4 : ∀ j, w'.1 187 j = if 20 * k ≤ j ∧ j < 20 * (nwy (mx v w) - 1) then w1.1 187 (j + 20) else w1.1 187 j := fun j => by
    rw [e, sI_oth _ _ _ _ _ _ (by decide), mi.2.2.2.2 j]
  have d5 : ∀ j, w'.1 167 j = w1.1 167 j := fun j => by
    rw [e, sI_oth _ _ _ _ _ _ (by decide), mi.2.1 167 j rfl (by decide) (by decide)]
  refine ⟨fun m hm => mx_ag (fun c j hc => ?_), ?_, ?_, by omega, by omega, fun c j hc hj => ?_, fun j i hj hi => ?_, fun j i hj hi => ?_, fun p => ?_, fun t => ?_, fun t ht => ?_⟩
  · have q := off_hit hm hc
    refine ⟨fun _ => c1 c j ?_ (fun e => by rw [e] at q; cases q) (fun e => by rw [e] at q; cases q) (fun e => by rw [e] at q; cases q) (fun e => by rw [e.1, e.2] at q; cases q), fun _ => d1 c j ?_ (fun e => by rw [e] at q; cases q) (fun e => by rw [e] at q; cases q) (fun e => by rw [e] at q; cases q) (fun e => by rw [e.1, e.2] at q; cases q)⟩
    · cases s : shC c with
      | false => rfl
      | true => rcases sh_c s with e | e | e | e | e | e | e <;> (rw [e] at q; cases q)
    · cases s : msC c with
      | false => rfl
      | true => rcases ms_c s with e | e | e | e | e <;> (rw [e] at q; cases q)
  · rw [mx_c _ _ (by decide), mx_m _ _ (by decide), sh.2.1 26 1 rfl, sI_same, e, sI_same, r26, r126, v26]
  · rw [mx_m _ _ (by decide), e, sI_same]
    omega
  · have sgj : ∀ g : Nat → Int32, (if k ≤ j ∧ j < nwy (mx v w) - 1 then g (j + 1) else g j) = g (sg k j) := fun g => by
      unfold sg
      by_cases q : j < k
      · rw [if_pos q, if_neg (fun z => by have := z.1; omega)]
      · rw [if_neg q, if_pos ⟨by omega, hj⟩]
    rcases hc with hc | hc
    · have q := sh_c hc
      rw [mx_c _ _ (by omega), mx_c _ _ (by omega), c2 c j hc]
      exact sgj (v.1 c)
    · have q := ms_c hc
      rw [mx_m _ _ (by omega), mx_m _ _ (by omega), d2 c j hc]
      exact sgj (w.1 c)
  · rw [mx_m _ _ (by decide), mx_m _ _ (by decide), d3]
    unfold sg
    by_cases q : j < k
    · rw [if_pos q, if_neg (fun z => by have := z.1; omega)]
    · rw [if_neg q, if_pos ⟨by omega, by omega⟩]
      congr 1
      omega
  · rw [mx_m _ _ (by decide), mx_m _ _ (by decide), d4]
    unfold sg
    by_cases q : j < k
    · rw [if_pos q, if_neg (fun z => by have := z.1; omega), ci.2.2.1, if_neg (fun z => by have := z.1; omega)]
    · rw [if_neg q, if_pos ⟨by omega, by omega⟩, ci.2.2.1, if_neg (fun z => by have := z.2; omega)]
      congr 1
      omega
  · rw [mx_c _ _ (by decide), mx_c _ _ (by decide), c3 36 p (by omega)]
    exact ri.2.2.1 p
  · rw [mx_c _ _ (by decide), mx_c v w (c := 37) (by decide), mx_c v' w' (c := 16) (by decide), mx_c v w (c := 16) (by decide), mx_c v w (c := 9) (by decide), c3 37 t (by omega), c3 16 t (by omega)]
    refine ⟨fun z => ?_, fun z => (ri.2.2.2 t).2 (fun j _ hn => z j hn)⟩
    obtain ⟨j, hn, ej⟩ := z
    have q := (ri.2.2.2 t).1 ⟨j, by omega, hn, ej⟩
    refine ⟨q.1, q.2.trans ?_⟩
    unfold xR
    rw [if_pos i_0]
  · have tw : tM (mx v w) = tM w := rfl
    rw [tw] at ht
    have ce : clT (mx v w) k t ↔ clT w k t := Iff.rfl
    have xe : clX (mx v w) t = clX w t := rfl
    rw [ce, xe, mx_m _ _ (by decide), mx_m _ _ (by decide), d5 t]
    exact ⟨fun c => (ci.2.2.2 t).1 ⟨by omega, c⟩, fun c => (ci.2.2.2 t).2 (fun z => c z.2)⟩
/-- which way goes from a to b -/
def IxS (f g : Nat → Int32) (n : Int) (a b r : Int32) : Prop := (r = -1 ∧ ∀ k : Nat, (k : Int) < n → ¬ ((f k).toInt = a.toInt ∧ (g k).toInt = b.toInt)) ∨ ∃ k : Nat, (k : Int) < n ∧ r = nI k ∧ ((f k).toInt = a.toInt ∧ (g k).toInt = b.toInt) ∧ ∀ k', k' < k → ¬ ((f k').toInt = a.toInt ∧ (g k').toInt = b.toInt)
theorem ixs_u {f g f' g' : Nat → Int32} {n : Int} {a b r r' : Int32} (h : IxS f g n a b r) (h' : IxS f' g' n a b r') (e : ∀ k : Nat, (k : Int) < n → f k = f' k ∧ g k = g' k) : r = r' := by
  rcases h with ⟨h1, h2⟩ | ⟨k, h1, h2, h3, h4⟩
  · rcases h' with ⟨h1', _⟩ | ⟨k', h1', _, h3', _⟩
    · rw [h1, h1']
    · have q := e k' h1'
      rw [← q.1, ← q.2] at h3'
      exact absurd h3' (h2 k' h1')
  · rcases h' with ⟨_, h2'⟩ | ⟨k', h1', h2', h3', h4'⟩
    · have q := e k h1
      rw [q.1, q.2] at h3
      exact absurd h3 (h2' k h1)
    · have kk : k = k' := by
        by_cases c : k < k'
        · have q := e k h1
          rw [q.1, q.2] at h3
          exact absurd h3 (h4' k c)
        · by_cases c2 : k' < k
          · have q := e k' h1'
            rw [← q.1, ← q.2] at h3'
            exact absurd h3' (h4 k' c2)
          · omega
      rw [h2, h2', kk]
theorem ix_2 {v : MW} {a b : Int32} {E E' : MW → Prop} {Q Q' : Int32 → MW → Prop} (n : (v.1 26 1).toInt ≤ 24) (kE : IxS (v.1 27) (v.1 28) (v.1 26 1).toInt a b (-1) → E v → E' v) (kQ : ∀ r, IxS (v.1 27) (v.1 28) (v.1 26 1).toInt a b r → Q r v → Q' r v) : ∀ (m : Nat) (k : Int32), q_Wa_indexOf_2 a b E Q m k v → 0 ≤ k.toInt → (∀ k' : Nat, (k' : Int) < k.toInt → ¬ ((v.1 27 k').toInt = a.toInt ∧ (v.1 28 k').toInt = b.toInt)) → q_Wa_indexOf_2 a b E' Q' m k v := by
  intro m
  induction m with
  | zero => exact fun _ h _ _ => False.elim h
  | succ m ih =>
    intro k h k0 inv
    rw [q_Wa_indexOf_2.eq_2] at h ⊢
    refine ⟨fun d => kE (Or.inl ⟨rfl, fun k' hk' => inv k' (by omega)⟩) (h.1 d), fun d => ?_⟩
    have H := h.2 d
    have ek := ti_add2 (Eq.refl k.toInt) i_1 (by omega) (by omega)
    have nx : ¬ ((v.1 27 k.toInt.toNat).toInt = a.toInt ∧ (v.1 28 k.toInt.toNat).toInt = b.toInt) → ∀ k' : Nat, (k' : Int) < (k + (1 : Int32)).toInt → ¬ ((v.1 27 k').toInt = a.toInt ∧ (v.1 28 k').toInt = b.toInt) := fun no k' hk' => by
      by_cases q : (k' : Int) = k.toInt
      · rw [show k' = k.toInt.toNat by omega]
        exact no
      · exact inv k' (by omega)
    refine ⟨H.1, fun c => ih _ (H.2.1 c) (by omega) (nx (fun z => c z.1)), fun c => ⟨(H.2.2 c).1, fun c2 => ih _ ((H.2.2 c).2.1 c2) (by omega) (nx (fun z => c2 z.2)), fun c2 => kQ k (Or.inr ⟨k.toInt.toNat, by omega, (nI_tn k0).symm, ⟨Classical.not_not.mp c, Classical.not_not.mp c2⟩, fun k' hk' => inv k' (by omega)⟩) ((H.2.2 c).2.2 c2)⟩⟩
theorem ix_x {v : MW} {a b : Int32} {Q Q' : Int32 → MW → Prop} (h : p_Wa_indexOf v a b Q) (n : (v.1 26 1).toInt ≤ 24) (k : ∀ r, IxS (v.1 27) (v.1 28) (v.1 26 1).toInt a b r → Q r v → Q' r v) : p_Wa_indexOf v a b Q' := by
  rw [p_Wa_indexOf.eq_1] at h ⊢
  exact ix_2 n (k (-1)) k _ _ h (by decide) (fun k' hk' => by rw [i_0] at hk'; omega)
theorem ow_2 {w : MW} {a b : Int32} {E E' : MW → Prop} {Q Q' : Int32 → MW → Prop} (n : (w.1 127 26).toInt ≤ 24) (kE : IxS (w.1 181) (w.1 182) (w.1 127 26).toInt a b (-1) → E w → E' w) (kQ : ∀ r, IxS (w.1 181) (w.1 182) (w.1 127 26).toInt a b r → Q r w → Q' r w) : ∀ (m : Nat) (k : Int32), q_Mo_openWay_2 a b E Q m k w → 0 ≤ k.toInt → (∀ k' : Nat, (k' : Int) < k.toInt → ¬ ((w.1 181 k').toInt = a.toInt ∧ (w.1 182 k').toInt = b.toInt)) → q_Mo_openWay_2 a b E' Q' m k w := by
  intro m
  induction m with
  | zero => exact fun _ h _ _ => False.elim h
  | succ m ih =>
    intro k h k0 inv
    rw [q_Mo_openWay_2.eq_2] at h ⊢
    refine ⟨fun d => kE (Or.inl ⟨rfl, fun k' hk' => inv k' (by omega)⟩) (h.1 d), fun d => ?_⟩
    have H := h.2 d
    have ek := ti_add2 (Eq.refl k.toInt) i_1 (by omega) (by omega)
    have nx : ¬ ((w.1 181 k.toInt.toNat).toInt = a.toInt ∧ (w.1 182 k.toInt.toNat).toInt = b.toInt) → ∀ k' : Nat, (k' : Int) < (k + (1 : Int32)).toInt → ¬ ((w.1 181 k').toInt = a.toInt ∧ (w.1 182 k').toInt = b.toInt) := fun no k' hk' => by
      by_cases q : (k' : Int) = k.toInt
      · rw [show k' = k.toInt.toNat by omega]
        exact no
      · exact inv k' (by omega)
    refine ⟨H.1, fun c => ih _ (H.2.1 c) (by omega) (nx (fun z => c z.1)), fun c => ⟨(H.2.2 c).1, fun c2 => ih _ ((H.2.2 c).2.1 c2) (by omega) (nx (fun z => c2 z.2)), fun c2 => kQ k (Or.inr ⟨k.toInt.toNat, by omega, (nI_tn k0).symm, ⟨Classical.not_not.mp c, Classical.not_not.mp c2⟩, fun k' hk' => inv k' (by omega)⟩) ((H.2.2 c).2.2 c2)⟩⟩
theorem owy_x {w : MW} {a b : Int32} {Q Q' : Int32 → MW → Prop} (h : p_Mo_openWay w a b Q) (n : (w.1 127 26).toInt ≤ 24) (k : ∀ r, IxS (w.1 181) (w.1 182) (w.1 127 26).toInt a b r → Q r w → Q' r w) : p_Mo_openWay w a b Q' := by
  rw [p_Mo_openWay.eq_1] at h ⊢
  exact ow_2 n (k (-1)) k _ _ h (by decide) (fun k' hk' => by rw [i_0] at hk'; omega)
/-- the reference's words for it -/
def mCl (w : MW) (a b : Int32) (Q : Int32 → MW → Prop) : Prop := p_Mo_openWay w a b (fun r34 w34 => ((¬ r34.toInt = (-1) → (p_Mo_close w34 r34 (fun w36 => (Q 0 w36)))) ∧ (¬ (¬ r34.toInt = (-1)) → (Q 3 w34))))
/-- one way is closed on both sides -/
theorem rm_pair {v w : MW} {k : Int32} {Q Q' : MW → Prop} (hw : BND w) (hr : HRq (mx v w)) (k0 : 0 ≤ k.toInt) (k1 : k.toInt < (w.1 127 26).toInt) (h : p_Wa_remove v k 0 Q) (kQ : ∀ v', (∀ R R', p_Mo_close w k R → (∀ w', HRq (mx v' w') → (w'.1 127 26).toInt = (w.1 127 26).toInt - 1 → R w' → R' w') → p_Mo_close w k R') → Q v' → Q' v') : p_Wa_remove v k 0 Q' := by
  have T := hb_T hw
  have P := hb_P hw
  have nz := w_n hr.2.2.2.1
  rw [mx_m _ _ (by decide)] at nz
  have kn : k.toInt.toNat < nwy (mx v w) := by omega
  have v26 : v.1 26 1 = w.1 127 26 := hr.2.2.2.1.1
  have H : RmH v k.toInt.toNat (wln (mx v w) k.toInt.toNat) (fun i => ent (mx v w) k.toInt.toNat i / 2) (fun i => (atM (mx v w) (ent (mx v w) k.toInt.toNat (i + 1))).toNat) := RmH_g (fun c j hc => (mx_c v w hc j).symm) (rmh_z P hr.1 hr.2.2.2 kn)
  refine rm_x h H (w_l hr.2.2.2.1 kn).2.1 k0 (by rw [v26]; exact k1) (fun v' rc g => kQ v' (fun R R' hR kR => mcl2_x hR T k0 k1 (by omega) (fun w' cm g2 => kR w' ?_ ?_ g2)) g)
  · refine cw_hr (z := mx v w) P.2 T hr (cw_read hr kn T rc cm) (fun j => ?_)
    rw [mx_j _ _ (by decide), mx_j _ _ (by decide)]
    obtain ⟨w0, ri, sh⟩ := rc
    rw [sh.1]
    show w0.2.1 20 j = v.2.1 20 j
    rw [ri.2.1]
  · have f := (cw_read hr kn T rc cm).2.2.1
    rw [mx_m _ _ (by decide)] at f
    omega
theorem cw_pair {v w : MW} {a b : Int32} {Q Q' : Int32 → MW → Prop} (hw : BND w) (hr : HRq (mx v w)) (h : p_Ac_closeWay v a b Q) (kQ : ∀ r v', (∀ R R', mCl w a b R → (∀ w', HRq (mx v' w') → R r w' → R' r w') → mCl w a b R') → Q r v' → Q' r v') : p_Ac_closeWay v a b Q' := by
  have v26 : v.1 26 1 = w.1 127 26 := hr.2.2.2.1.1
  have n24 := (bd_127_26 hw).2
  have nz := w_n hr.2.2.2.1
  rw [mx_m _ _ (by decide)] at nz
  have same : ∀ k : Nat, (k : Int) < (w.1 127 26).toInt → v.1 27 k = w.1 181 k ∧ v.1 28 k = w.1 182 k := fun k hk => by
    have q := (hr.2.2.2.1.2.2.2 k (by omega)).1
    exact ⟨q.1, q.2.1⟩
  rw [p_Ac_closeWay.eq_1] at h ⊢
  refine ix_x h (by rw [v26]; exact n24) (fun r ix g => ⟨fun c => ?_, fun c => kQ _ _ (fun R R' hR kR => ?_) (g.2 c)⟩)
  · have G := g.1 c
    rw [v26] at ix
    rw [p_Wa_closeOne.eq_1] at G ⊢
    have rk : r.toInt < (w.1 127 26).toInt := by
      rcases ix with ⟨q, _⟩ | ⟨k, q1, q2, _⟩
      · rw [q] at c
        exact absurd c (by decide)
      · rw [q2, nI_toInt (by omega)]
        exact q1
    refine rm_pair hw hr c rk G (fun v' q g1 => kQ _ _ (fun R R' hR kR => ?_) g1)
    unfold mCl at hR ⊢
    refine owy_x hR n24 (fun r' ix' g' => ⟨fun d => ?_, fun d => ?_⟩)
    · have er : r = r' := ixs_u ix ix' same
      have K := g'.1 d
      rw [← er] at K ⊢
      exact q _ _ K (fun w' z1 _ g3 => kR w' z1 g3)
    · have er : r = r' := ixs_u ix ix' same
      rw [← er] at d
      exact absurd (Classical.not_not.mp d) (by omega)
  · rw [v26] at ix
    unfold mCl at hR ⊢
    refine owy_x hR n24 (fun r' ix' g' => ⟨fun d => ?_, fun d => kR _ hr (g'.2 d)⟩)
    have er : r = r' := ixs_u ix ix' same
    rw [← er] at d
    rcases ix with ⟨q, _⟩ | ⟨k, q1, q2, _⟩
    · rw [q] at d
      exact absurd (by decide) d
    · rw [q2, nI_toInt (by omega)] at c
      omega
/-! danger: the pair -/
theorem dg_45 (w : MW) (f x a b : Int32) : (dgW w f x a b).1 127 45 = f ∧ (dgW w f x a b).1 127 46 = x ∧ (dgW w f x a b).1 127 47 = a ∧ (dgW w f x a b).1 127 48 = b := by
  unfold dgW
  refine ⟨?_, ?_, ?_, ?_⟩
  · rw [sI_ne _ _ _ _ _ (by decide), sI_ne _ _ _ _ _ (by decide), sI_ne _ _ _ _ _ (by decide), sI_same]
  · rw [sI_ne _ _ _ _ _ (by decide), sI_ne _ _ _ _ _ (by decide), sI_same]
  · rw [sI_ne _ _ _ _ _ (by decide), sI_same]
  · rw [sI_same]
/-- the insides are looked at: the house and where liquids flood from -/
theorem lk_hr {v w wl : MW} {W : Nat → Nat → Prop} (hr : HRq (mx v w)) (lk : LkP v w W wl) : HRq (mx v wl) := by
  have ag : ∀ m : Pl, off [(194, none)] m = true → Ag m (mx v w) (mx v wl) := fun m hm => mx_ag (fun k j hk => by
    have q := off_hit hm hk
    exact ⟨fun _ => rfl, fun _ => lk.1.2 k j (fun e => by rw [e] at q; cases q)⟩)
  refine HRq_ag (ag lPL rfl) (ag lTq rfl) (ag lSk rfl) (ag lWy rfl) (fun j => ?_) hr
  rw [mx_j _ _ (by decide), mx_j _ _ (by decide)]
theorem lk_sr {v w wl : MW} (hv : BND v) (hw : BND w) (hz : HRq (mx v wl)) (lk : LkP v w (fun k x => (k : Int) < (w.1 127 26).toInt ∧ wnt w k x) wl) : SRr (mx v wl) := by
  have T := hb_T hw
  have P := hb_P hw
  have t1 : tM (mx v wl) = tM w := by
    unfold tM
    rw [mx_m _ _ (by decide), lk.1.2 127 4 (by decide)]
  have p1 : pM (mx v wl) = pM w := by
    unfold pM
    rw [mx_m _ _ (by decide), lk.1.2 127 11 (by decide)]
  have e17 : ∀ j, (mx v wl).1 17 j = v.1 17 j := fun j => mx_c _ _ (by decide) j
  have ins : INs (mx v wl) := ins_x lk (ag_t (ag_o lk.1 rfl) (ag_s (mx_am _ _ rfl))) (bd_127_26 hw).1 e17 (fun j => mx_m _ _ (by decide) j)
  have hy := hz.2.2.2
  exact sr_x (by rw [t1]; exact T) (by rw [p1]; exact P) hz.1.1.1 hz.1.1.2.1 (fun x => by rw [e17]; exact bd_17 hv x) hy.1 hy.2.1 hy.2.2.1 hy.2.2.2.1 hy.2.2.2.2.2 ins
def dgA (r : Int32) (v : MW) (a : Int32) : Int32 := if a.toInt = 0 then v.1 42 6 else if r.toInt = 0 then (if a.toInt = 1 then v.1 42 7 else if a.toInt = 2 then v.1 42 8 else if a.toInt = 3 then v.1 42 9 else -1) else -1
theorem da_ref {v w v1 : MW} {a r1 : Int32} (hv : BND v) (hw : BND w) (hr : HRq (mx v w)) (sc : SfC v r1 v1) (o : oSf v v1) (R R' : Int32 → MW → Prop) (hR : p_Mo_danger w a R) (kR : ∀ w', HRq (mx v1 w') → R (dgA r1 v1 a) w' → R' (dgA r1 v1 a) w') : p_Mo_danger w a R' := by
  have T := hb_T hw
  have P := hb_P hw
  rw [p_Mo_danger.eq_1] at hR ⊢
  obtain ⟨hz, hz2⟩ := lkz_x (z := w) hw hr (fun _ _ _ => rfl) (fun _ => rfl)
  refine lo_x (v := v) hR hz hz2 (fun wl lk g2 => ?_)
  have m1 : tM wl = tM w := by
    unfold tM
    rw [lk.1.2 127 4 (by decide)]
  have m2 : pM wl = pM w := by
    unfold pM
    rw [lk.1.2 127 11 (by decide)]
  refine sf_x g2 (by rw [m1]; exact T.1) (by rw [m1]; exact T.2) (by rw [m2]; exact P.1) (by rw [m2]; exact P.2) (fun r2 w2 sm g3 => ?_)
  have hzl := lk_hr hr lk
  have pb : PB (mx v wl) := PB_p (ag_s (mx_ac v wl rfl)) (fun t => by rw [mx_c _ _ (by decide)]; exact bd_16 hv t) (PB_b hv)
  have res := sf_mx hzl.1 hzl.2.1 pb (fun t => (bd_11 hv t).1) (lk_sr hv hw hzl lk) sc sm
  have done : ∀ f : MW → Prop, (∀ k j, hit [(127, some 45), (127, some 46), (127, some 47), (127, some 48)] k j = false → w2.1 k j = wl.1 k j) → HRq (mx v1 w2) := fun _ e => by
    have ag : ∀ m : Pl, off [(42, none), (44, none), (127, some 45), (127, some 46), (127, some 47), (127, some 48)] m = true → Ag m (mx v wl) (mx v1 w2) := fun m hm => mx_ag (fun k j hk => by
      have q := off_hit hm hk
      refine ⟨fun _ => o.1 k j (fun e => by rw [e] at q; cases q) (fun e => by rw [e] at q; cases q), fun _ => e k j ?_⟩
      cases q6 : hit [(127, some 45), (127, some 46), (127, some 47), (127, some 48)] k j with
      | false => rfl
      | true =>
        rw [sub_hit (show sub [(127, some 45), (127, some 46), (127, some 47), (127, some 48)] [(42, none), (44, none), (127, some 45), (127, some 46), (127, some 47), (127, some 48)] = true by decide) q6] at q
        cases q)
    refine HRq_ag (ag lPL rfl) (ag lTq rfl) (ag lSk rfl) (ag lWy rfl) (fun j => ?_) hzl
    rw [mx_j _ _ (by decide), mx_j _ _ (by decide)]
    exact o.2.1 20 j (by decide) (by decide) (by decide)
  rcases res with ⟨q1, q2, q3, q4⟩ | ⟨q1, q2, f, x, y, z, q3, q4, q5, q6, q7⟩
  · have K := kR w2 (done (fun _ => True) (fun k j _ => by rw [q4]))
    have r0 : ¬ r2.toInt = 0 := by rw [q2]; decide
    have r1' : ¬ r1.toInt = 0 := by rw [q1]; decide
    refine ⟨fun c => absurd c r0, fun c => ⟨fun d => ?_, fun d => ?_⟩⟩
    · unfold dgA at K
      rw [if_neg d, if_neg r1'] at K
      exact K ((g3.2 c).1 d)
    · unfold dgA at K
      rw [if_pos (Classical.not_not.mp d), i32_z q3] at K
      exact K ((g3.2 c).2 d)
  · have K := kR w2 (done (fun _ => True) (fun k j hk => by rw [q3]; exact dg_rd hk))
    have r0 : r2.toInt = 0 := by rw [q2]; decide
    have r1' : r1.toInt = 0 := by rw [q1]; decide
    have dg := dg_45 wl f x y z
    rw [← q3] at dg
    refine ⟨fun c => ⟨fun d => ⟨fun d1 => ⟨fun d2 => ⟨fun d3 => ?_, fun d3 => ?_⟩, fun d2 => ?_⟩, fun d1 => ?_⟩, fun d => ?_⟩, fun c => absurd r0 c⟩
    · unfold dgA at K
      rw [if_neg d, if_pos r1', if_neg d1, if_neg d2, if_neg d3] at K
      exact K ((((g3.1 c).1 d).1 d1).1 d2 |>.1 d3)
    · unfold dgA at K
      rw [if_neg d, if_pos r1', if_neg d1, if_neg d2, if_pos (Classical.not_not.mp d3), q7, ← dg.2.2.2] at K
      exact K ((((g3.1 c).1 d).1 d1).1 d2 |>.2 d3)
    · unfold dgA at K
      rw [if_neg d, if_pos r1', if_neg d1, if_pos (Classical.not_not.mp d2), q6, ← dg.2.2.1] at K
      exact K ((((g3.1 c).1 d).1 d1).2 d2)
    · unfold dgA at K
      rw [if_neg d, if_pos r1', if_pos (Classical.not_not.mp d1), q5, ← dg.2.1] at K
      exact K (((g3.1 c).1 d).2 d1)
    · unfold dgA at K
      rw [if_pos (Classical.not_not.mp d), q4, ← dg.1] at K
      exact K ((g3.1 c).2 d)
theorem da_pair {v w : MW} {a : Int32} {Q Q' : Int32 → MW → Prop} (hv : BND v) (hw : BND w) (hr : HRq (mx v w)) (h : p_Bh_danger v a Q) (kQ : ∀ r v', (∀ R R', p_Mo_danger w a R → (∀ w', HRq (mx v' w') → R r w' → R' r w') → p_Mo_danger w a R') → Q r v' → Q' r v') : p_Bh_danger v a Q' := by
  rw [p_Bh_danger.eq_1] at h ⊢
  refine sc_y h (MSy_g (fun j => (mx_c v w (by decide) j).symm) hr.2.1.2.1) (PX_d (mx_ac v w rfl) hr.1.2.1) (PY_c (mx_ac v w rfl) hr.1.2.2.1) (PB_b hv) (fun k hk => by have := bd_28 hv k; exact ⟨this.1, by omega⟩) (fun l y _ s => sC_v hv hw hr l y s) (fun r1 v1 sc o g => ?_)
  have K := kQ (dgA r1 v1 a) v1 (da_ref hv hw hr sc o)
  refine ⟨fun c => ⟨fun d => ⟨fun e => ?_, fun e => ⟨fun e2 => ?_, fun e2 => ⟨fun e3 => ?_, fun e3 => ?_⟩⟩⟩, fun d => ?_⟩, fun c => ?_⟩
  · have e0 : dgA r1 v1 a = v1.1 42 7 := by
      unfold dgA
      rw [if_neg c, if_pos d, if_pos e]
    rw [e0] at K
    exact K (((g.1 c).1 d).1 e)
  · have e0 : dgA r1 v1 a = v1.1 42 8 := by
      unfold dgA
      rw [if_neg c, if_pos d, if_neg e, if_pos e2]
    rw [e0] at K
    exact K ((((g.1 c).1 d).2 e).1 e2)
  · have e0 : dgA r1 v1 a = v1.1 42 9 := by
      unfold dgA
      rw [if_neg c, if_pos d, if_neg e, if_neg e2, if_pos e3]
    rw [e0] at K
    exact K (((((g.1 c).1 d).2 e).2 e2).1 e3)
  · have e0 : dgA r1 v1 a = -1 := by
      unfold dgA
      rw [if_neg c, if_pos d, if_neg e, if_neg e2, if_neg e3]
    rw [e0] at K
    exact K (((((g.1 c).1 d).2 e).2 e2).2 e3)
  · have e0 : dgA r1 v1 a = -1 := by
      unfold dgA
      rw [if_neg c, if_neg d]
    rw [e0] at K
    exact K ((g.1 c).2 d)
  · have e0 : dgA r1 v1 a = v1.1 42 6 := by
      unfold dgA
      rw [if_pos (Classical.not_not.mp c)]
    rw [e0] at K
    exact K (g.2 c)
/-! way and space: the pairs -/
theorem gt_79 {v : MW} {b : Int32} {n : Nat} {f : Nat → Nat} {E E' Q Q' : Int32 → MW → Prop} (f24 : ∀ i, i < n → f i < 24) (nx : ∀ i, i + 1 < n → v.1 35 (f i) = nI (f (i + 1))) (b0 : 3 ≤ b.toInt) (b1 : b.toInt < 3 + n) (n24 : n ≤ 24) (kE : E (nI (f (b.toInt - 3).toNat)) v → E' (nI (f (b.toInt - 3).toNat)) v) : ∀ (m : Nat) (p x : Int32), q_Wa_get_79 b E Q m p x v → 3 ≤ x.toInt → x.toInt ≤ b.toInt → p = nI (f (x.toInt - 3).toNat) → q_Wa_get_79 b E' Q' m p x v := by
  intro m
  induction m with
  | zero => exact fun _ _ h _ _ _ => False.elim h
  | succ m ih =>
    intro p x h x0 x1 ep
    rw [q_Wa_get_79.eq_2] at h ⊢
    have fx := f24 (x.toInt - 3).toNat (by omega)
    have pt : p.toInt = f (x.toInt - 3).toNat := by
      rw [ep]
      exact nI_toInt (by omega)
    refine ⟨fun c => ?_, fun c => ⟨fun d => by omega, fun d => ?_⟩⟩
    · have e : x.toInt = b.toInt := by omega
      have H := h.1 c
      rw [ep, e] at H ⊢
      exact kE H
    · have H := (h.2 c).2 d
      have ex := ti_add2 (Eq.refl x.toInt) i_1 (by omega) (by omega)
      refine ⟨H.1, ih _ _ H.2 (by omega) (by omega) ?_⟩
      rw [show p.toInt.toNat = f (x.toInt - 3).toNat by omega, nx _ (by omega)]
      congr 2
      omega
theorem i32_e {x y : Int32} (h : x.toInt = y.toInt) : x = y := Int32.toInt_inj.mp h
theorem wa_pair {v w : MW} {a b : Int32} {Q Q' : Int32 → MW → Prop} (hw : BND w) (hr : HRq (mx v w)) (h : p_Bh_way v a b Q) (kQ : ∀ r, (∀ R R' : Int32 → MW → Prop, p_Mo_way w a b R → (R r w → R' r w) → p_Mo_way w a b R') → Q r v → Q' r v) : p_Bh_way v a b Q' := by
  have P := hb_P hw
  have hy := hr.2.2.2
  have nz := w_n hy.1
  rw [mx_m _ _ (by decide)] at nz
  have v26 : v.1 26 1 = w.1 127 26 := hy.1.1
  rw [p_Bh_way.eq_1, p_Wa_get.eq_1, v26] at h ⊢
  have neg : ∀ (q : a.toInt < 0 ∨ (w.1 127 26).toInt ≤ a.toInt ∨ b.toInt < 0 ∨ (0 ≤ a.toInt ∧ a.toInt < (w.1 127 26).toInt ∧ 3 + (w.1 185 a.toInt.toNat).toInt ≤ b.toInt)), ∀ R R' : Int32 → MW → Prop, p_Mo_way w a b R → (R (-1) w → R' (-1) w) → p_Mo_way w a b R' := fun q R R' hR kR => by
    rw [p_Mo_way.eq_1] at hR ⊢
    refine ⟨fun c => kR (hR.1 c), fun c => ⟨fun d => kR ((hR.2 c).1 d), fun d => ⟨fun e => kR (((hR.2 c).2 d).1 e), fun e => ?_⟩⟩⟩
    have H := ((hR.2 c).2 d).2 e
    have l := (hy.1.2.2.2 a.toInt.toNat (by omega)).2.1
    rw [mx_m _ _ (by decide)] at l
    have e2 := ti_add2 (by decide : ((2 : Int32)).toInt = 2) (Eq.refl (w.1 185 a.toInt.toNat).toInt) (by omega) (by omega)
    refine ⟨H.1, fun f => ?_, fun f => kR (H.2.2 f)⟩
    rcases q with q | q | q | q
    · omega
    · omega
    · omega
    · have := q.2.2
      omega
  refine ⟨fun c => kQ _ (neg (Or.inl c)) (h.1 c), fun c => ⟨fun d => kQ _ (neg (Or.inr (Or.inl d))) ((h.2 c).1 d), fun d => ⟨fun e => kQ _ (neg (Or.inr (Or.inr (Or.inl e)))) (((h.2 c).2 d).1 e), fun e => ?_⟩⟩⟩
  have H := ((h.2 c).2 d).2 e
  have kn : a.toInt.toNat < nwy (mx v w) := by omega
  have A := hy.1.2.2.2 a.toInt.toNat kn
  have e31 : v.1 31 a.toInt.toNat = w.1 185 a.toInt.toNat := A.1.2.2.2.2
  have l := A.2.1
  rw [mx_m _ _ (by decide)] at l
  have wl := w_l hy.1 kn
  rw [mx_m _ _ (by decide)] at wl
  have e3 := ti_add2 (by decide : ((3 : Int32)).toInt = 3) (Eq.refl (w.1 185 a.toInt.toNat).toInt) (by omega) (by omega)
  have e2 := ti_add2 (by decide : ((2 : Int32)).toInt = 2) (Eq.refl (w.1 185 a.toInt.toNat).toInt) (by omega) (by omega)
  have ab := H.1
  rw [e31] at H ⊢
  have pos : b.toInt < ((3 : Int32) + (w.1 185 a.toInt.toNat)).toInt → ∀ r, (b.toInt = 0 → r = w.1 181 a.toInt.toNat) → (b.toInt = 1 → r = w.1 182 a.toInt.toNat) → (b.toInt = 2 → r = w.1 185 a.toInt.toNat) → (3 ≤ b.toInt → r.toInt = (w.1 186 (24 * a.toInt.toNat + (b.toInt - 3).toNat)).toInt / 2) → ∀ R R' : Int32 → MW → Prop, p_Mo_way w a b R → (R r w → R' r w) → p_Mo_way w a b R' := fun q r r0 r1 r2 r3 R R' hR kR => by
    rw [p_Mo_way.eq_1] at hR ⊢
    have G := ((hR.2 c).2 d).2 e
    refine ⟨fun c' => absurd c' c, fun _ => ⟨fun d' => absurd d' d, fun _ => ⟨fun e' => absurd e' e, fun _ => ⟨G.1, fun f => ⟨fun g0 => ⟨fun g1 => ⟨fun g2 => ?_, fun g2 => ?_⟩, fun g1 => ?_⟩, fun g0 => ?_⟩, fun f => by omega⟩⟩⟩⟩
    · have K := ((((G.2.1 f).1 g0).1 g1).1 g2)
      have m1 := ti_mul2 (by decide : ((24 : Int32)).toInt = 24) (Eq.refl a.toInt) (by omega) (by omega)
      have m2 := ti_add2 m1 (Eq.refl b.toInt) (by omega) (by omega)
      have m3 := ti_sub2 m2 (by decide : ((3 : Int32)).toInt = 3) (by omega) (by omega)
      have m4 : ((((24 : Int32) * a) + b) - (3 : Int32)).toInt.toNat = 24 * a.toInt.toNat + (b.toInt - 3).toNat := by omega
      rw [m4] at K ⊢
      have b186 := m_186 hw (24 * a.toInt.toNat + (b.toInt - 3).toNat)
      have d2 : ((w.1 186 (24 * a.toInt.toNat + (b.toInt - 3).toNat)) / (2 : Int32)).toInt = (w.1 186 (24 * a.toInt.toNat + (b.toInt - 3).toNat)).toInt / 2 := nb_div b186.1 (by decide) (by decide)
      have er : r = (w.1 186 (24 * a.toInt.toNat + (b.toInt - 3).toNat)) / (2 : Int32) := i32_e (by rw [d2]; exact r3 (by omega))
      rw [er] at kR
      exact ⟨K.1, kR K.2⟩
    · have K := ((((G.2.1 f).1 g0).1 g1).2 g2)
      rw [r2 (Classical.not_not.mp g2)] at kR
      exact ⟨K.1, kR K.2⟩
    · have K := (((G.2.1 f).1 g0).2 g1)
      rw [r1 (Classical.not_not.mp g1)] at kR
      exact ⟨K.1, kR K.2⟩
    · have K := ((G.2.1 f).2 g0)
      rw [r0 (Classical.not_not.mp g0)] at kR
      exact ⟨K.1, kR K.2⟩
  refine ⟨H.1, fun f => ⟨fun g => ⟨((H.2.1 f).1 g).1, ?_⟩, fun g => ⟨fun g0 => ⟨fun g1 => ?_, fun g1 => ?_⟩, fun g0 => ?_⟩⟩, fun f => kQ _ (neg (Or.inr (Or.inr (Or.inr ⟨by omega, by omega, by omega⟩)))) (H.2.2 f)⟩
  · have B := hy.2.1 a.toInt.toNat kn
    have lt : ∀ i, i < wln (mx v w) a.toInt.toNat → ent (mx v w) a.toInt.toNat i / 2 < 24 := fun i hi => by
      have q := (w_e hy.2.1 kn hi).2
      have pe : pM (mx v w) = pM w := rfl
      omega
    refine gt_79 (n := wln (mx v w) a.toInt.toNat) (f := fun i => ent (mx v w) a.toInt.toNat i / 2) lt (fun i hi => ?_) g (by omega) wl.2.2 (fun g2 => kQ _ (pos f _ (fun z => by omega) (fun z => by omega) (fun z => by omega) (fun _ => ?_)) g2) _ _ _ ((H.2.1 f).1 g).2 (by decide) (by rw [show ((3 : Int32)).toInt = 3 by decide]; exact g) ?_
    · have q := (B.1 i (by omega)).2.2
      rw [if_pos hi] at q
      exact q
    · have hi : (b.toInt - 3).toNat < wln (mx v w) a.toInt.toNat := by omega
      have q := (w_e hy.2.1 kn hi).1
      rw [mx_m _ _ (by decide)] at q
      have q2 := lt _ hi
      rw [nI_toInt (by omega)]
      omega
    · rw [show ((3 : Int32)).toInt = 3 by decide]
      exact B.2.1
  · have K := ((H.2.1 f).2 g).1 g0
    refine ⟨(K.1 g1).1, kQ _ (pos f _ (fun z => absurd z g0) (fun z => absurd z g1) (fun _ => rfl) (fun z => absurd z g)) (K.1 g1).2⟩
  · have K := ((H.2.1 f).2 g).1 g0
    have e28 : v.1 28 a.toInt.toNat = w.1 182 a.toInt.toNat := A.1.2.1
    refine ⟨(K.2 g1).1, kQ _ (pos f _ (fun z => absurd z g0) (fun _ => e28) (fun z => by have := Classical.not_not.mp g1; omega) (fun z => absurd z g)) (K.2 g1).2⟩
  · have K := ((H.2.1 f).2 g).2 g0
    have e27 : v.1 27 a.toInt.toNat = w.1 181 a.toInt.toNat := A.1.1
    refine ⟨K.1, kQ _ (pos f _ (fun _ => e27) (fun z => by have := Classical.not_not.mp g0; omega) (fun z => by have := Classical.not_not.mp g0; omega) (fun z => absurd z g)) K.2⟩
/-- litres in a space -/
theorem lt_19 {w : MW} {x : Int32} {p : Nat} {E E' Q Q' : Int32 → MW → Prop} (T : 0 ≤ tM w ∧ tM w ≤ 20) (xp : x.toInt = tM w + p) (p24 : p < 24) (s200 : (w.1 169 p).toInt ≤ 200) (kE : ∀ r : Int32, r.toInt = ctb (fun k => decide (¬ w.1 172 (200 * p + k) = 0)) (w.1 169 p).toInt.toNat → E r w → E' r w) : ∀ (m : Nat) (s i : Int32), q_Mo_litresIn_19 x E Q m s i w → 0 ≤ i.toInt → (i.toInt ≤ (w.1 169 p).toInt ∨ i.toInt = 0) → s.toInt = ctb (fun k => decide (¬ w.1 172 (200 * p + k) = 0)) i.toInt.toNat → q_Mo_litresIn_19 x E' Q' m s i w := by
  intro m
  induction m with
  | zero => exact fun _ _ h _ _ _ => False.elim h
  | succ m ih =>
    intro s i h i0 i1 es
    have ex : (x - (w.1 127 4)).toInt = p := by
      rw [ti_sub2 rfl rfl (by unfold tM at *; omega) (by unfold tM at *; omega)]
      unfold tM at xp
      omega
    have en : (x - (w.1 127 4)).toInt.toNat = p := by omega
    rw [q_Mo_litresIn_19.eq_2, en] at h ⊢
    refine ⟨h.1, fun c => ?_, fun c => ?_⟩
    · refine kE s ?_ (h.2.1 c)
      rcases i1 with i1 | i1
      · rw [es, show i.toInt.toNat = (w.1 169 p).toInt.toNat by omega]
      · rw [es, show i.toInt.toNat = (w.1 169 p).toInt.toNat by omega]
    · have H := h.2.2 c
      have ei := ti_add2 (Eq.refl i.toInt) i_1 (by omega) (by omega)
      have m1 := ti_mul2 (by decide : ((200 : Int32)).toInt = 200) ex (by omega) (by omega)
      have m2 := ti_add2 m1 (Eq.refl i.toInt) (by omega) (by omega)
      have m3 : (((200 : Int32) * (x - (w.1 127 4))) + i).toInt.toNat = 200 * p + i.toInt.toNat := by omega
      have ln := ctb_n (fun k => decide (¬ w.1 172 (200 * p + k) = 0)) i.toInt.toNat
      have st := ctb_s (fun k => decide (¬ w.1 172 (200 * p + k) = 0)) i.toInt.toNat
      rw [m3] at H ⊢
      refine ⟨H.1, fun d => ih _ _ (H.2.1 d) (by omega) (Or.inl (by omega)) ?_, fun d => ih _ _ (H.2.2 d) (by omega) (Or.inl (by omega)) ?_⟩
      · rw [show (i + (1 : Int32)).toInt.toNat = i.toInt.toNat + 1 by omega, st, if_pos (decide_eq_true (fun z => d (by rw [z]; exact i_0))), ti_add2 es i_1 (by omega) (by omega)]
        omega
      · rw [show (i + (1 : Int32)).toInt.toNat = i.toInt.toNat + 1 by omega, st, if_neg (fun z => (of_decide_eq_true z) (i32_z (Classical.not_not.mp d))), ti_add2 es i_0 (by omega) (by omega)]
        omega
