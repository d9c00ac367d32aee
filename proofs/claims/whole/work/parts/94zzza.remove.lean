/-! the class takes a way away -/
theorem nar_b0 : vp_nar .boolean (0 : Int32) = 0 := by
  first
    | rfl
    | decide
/-- how way k lies: its pipes pp, the things tt between them -/
def RmH (v : MW) (k n : Nat) (pp tt : Nat → Nat) : Prop := (v.1 31 k).toInt = n ∧ n ≤ 24 ∧ (∀ i, i < n → pp i < 24 ∧ v.1 35 (pp i) = (if i + 1 < n then nI (pp (i + 1)) else -1)) ∧ (∀ i, i + 1 < n → (v.1 13 (v.1 34 (pp i)).toInt.toNat).toInt = tt i) ∧ (∀ i j, i < n → j < n → pp i = pp j → i = j) ∧ (∀ i j, i + 1 < n → j + 1 < n → tt i = tt j → i = j) ∧ v.1 32 k = nI (pp 0)
/-- where a thing stands when no way goes over it any more -/
def xR (v : MW) (u : Int32) (t : Nat) : Int32 := if u.toInt = 0 then (if (v.1 9 t).toInt = 1 then 2 else 0) else v.1 40 t
def RmI (v : MW) (n : Nat) (pp tt : Nat → Nat) (u : Int32) (i : Nat) (w : MW) : Prop := (∀ c j, ¬ c = 16 → ¬ c = 36 → ¬ c = 37 → w.1 c j = v.1 c j) ∧ w.2 = v.2 ∧ (∀ q, ((∃ j, j < i ∧ pp j = q) → w.1 36 q = 0) ∧ ((∀ j, j < i → ¬ pp j = q) → w.1 36 q = v.1 36 q)) ∧ (∀ t, ((∃ j, j < i ∧ j + 1 < n ∧ tt j = t) → w.1 37 t = v.1 37 t - 1 ∧ w.1 16 t = (if (v.1 37 t - 1).toInt = 0 ∧ ¬ (v.1 9 t).toInt = 8 then xR v u t else v.1 16 t)) ∧ ((∀ j, j < i → j + 1 < n → ¬ tt j = t) → w.1 37 t = v.1 37 t ∧ w.1 16 t = v.1 16 t))
theorem rm_36 {v w w' : MW} {pp : Nat → Nat} {i : Nat} (e : ∀ q, w'.1 36 q = if q = pp i then 0 else w.1 36 q) (h : ∀ q, ((∃ j, j < i ∧ pp j = q) → w.1 36 q = 0) ∧ ((∀ j, j < i → ¬ pp j = q) → w.1 36 q = v.1 36 q)) (q : Nat) : ((∃ j, j < i + 1 ∧ pp j = q) → w'.1 36 q = 0) ∧ ((∀ j, j < i + 1 → ¬ pp j = q) → w'.1 36 q = v.1 36 q) := by
  rw [e q]
  refine ⟨fun z => ?_, fun z => ?_⟩
  · obtain ⟨j, hj, ej⟩ := z
    by_cases c : q = pp i
    · rw [if_pos c]
    · rw [if_neg c]
      refine (h q).1 ⟨j, ?_, ej⟩
      by_cases d : j = i
      · exact absurd (by rw [← ej, d]) c
      · omega
  · rw [if_neg (fun c => z i (by omega) c.symm)]
    exact (h q).2 (fun j hj => z j (by omega))
theorem rm_last {v w : MW} {n : Nat} {pp tt : Nat → Nat} {u : Int32} {i : Nat} (hi : ¬ i + 1 < n) (h : RmI v n pp tt u i w) : RmI v n pp tt u (i + 1) (sI w 36 (pp i) 0) := by
  obtain ⟨h1, h2, h3, h4⟩ := h
  refine ⟨fun c j c1 c2 c3 => by rw [sI_oth _ _ _ _ _ _ c2]; exact h1 c j c1 c2 c3, h2, rm_36 (fun q => sI_if _ _ _ _ _) h3, fun t => ?_⟩
  rw [sI_oth _ _ _ _ _ _ (by decide), sI_oth _ _ _ _ _ _ (by decide)]
  refine ⟨fun z => ?_, fun z => (h4 t).2 (fun j hj hn => z j (by omega) hn)⟩
  obtain ⟨j, hj, hn, e⟩ := z
  refine (h4 t).1 ⟨j, ?_, hn, e⟩
  by_cases d : j = i
  · rw [d] at hn
    exact absurd hn hi
  · omega
theorem rm_mid {v w w' : MW} {n : Nat} {pp tt : Nat → Nat} {u : Int32} {i : Nat} (inj : ∀ a b, a + 1 < n → b + 1 < n → tt a = tt b → a = b) (hi : i + 1 < n) (h : RmI v n pp tt u i w) (o : ∀ c j, ¬ c = 16 → ¬ c = 36 → ¬ c = 37 → w'.1 c j = w.1 c j) (o2 : w'.2 = w.2) (e36 : ∀ q, w'.1 36 q = if q = pp i then 0 else w.1 36 q) (e37 : ∀ t, w'.1 37 t = if t = tt i then w.1 37 (tt i) - 1 else w.1 37 t) (e16 : ∀ t, w'.1 16 t = if t = tt i then (if (v.1 37 (tt i) - 1).toInt = 0 ∧ ¬ (v.1 9 (tt i)).toInt = 8 then xR v u (tt i) else v.1 16 (tt i)) else w.1 16 t) : RmI v n pp tt u (i + 1) w' := by
  obtain ⟨h1, h2, h3, h4⟩ := h
  have self := (h4 (tt i)).2 (fun j hj hn e => by have := inj j i hn hi e; omega)
  refine ⟨fun c j c1 c2 c3 => by rw [o c j c1 c2 c3]; exact h1 c j c1 c2 c3, by rw [o2]; exact h2, rm_36 e36 h3, fun t => ?_⟩
  rw [e37 t, e16 t]
  refine ⟨fun z => ?_, fun z => ?_⟩
  · obtain ⟨j, hj, hn, e⟩ := z
    by_cases c : t = tt i
    · rw [if_pos c, if_pos c, c, self.1]
      exact ⟨rfl, rfl⟩
    · rw [if_neg c, if_neg c]
      refine (h4 t).1 ⟨j, ?_, hn, e⟩
      by_cases d : j = i
      · exact absurd (by rw [← e, d]) c
      · omega
  · have c : ¬ t = tt i := fun c => z i (by omega) hi c.symm
    rw [if_neg c, if_neg c]
    exact (h4 t).2 (fun j hj hn => z j (by omega) hn)
theorem rm_a {v w : MW} {n : Nat} {pp tt : Nat → Nat} {u : Int32} {i : Nat} (inj : ∀ a b, a + 1 < n → b + 1 < n → tt a = tt b → a = b) (hi : i + 1 < n) (h : RmI v n pp tt u i w) (c : ¬ ((v.1 37 (tt i) - 1).toInt = 0 ∧ ¬ (v.1 9 (tt i)).toInt = 8)) : RmI v n pp tt u (i + 1) (sI (sI w 36 (pp i) 0) 37 (tt i) (w.1 37 (tt i) - 1)) := by
  have self := (h.2.2.2 (tt i)).2 (fun j hj hn e => by have := inj j i hn hi e; omega)
  refine rm_mid inj hi h (fun c' j c1 c2 c3 => by rw [sI_oth _ _ _ _ _ _ c3, sI_oth _ _ _ _ _ _ c2]) rfl (fun q => ?_) (fun t => ?_) (fun t => ?_)
  · rw [sI_oth _ _ _ _ _ _ (by decide), sI_if]
  · rw [sI_if, sI_oth _ _ _ _ _ _ (by decide)]
  · rw [sI_oth _ _ _ _ _ _ (by decide), sI_oth _ _ _ _ _ _ (by decide), if_neg c]
    by_cases q : t = tt i
    · rw [if_pos q, q]
      exact self.2
    · rw [if_neg q]
theorem rm_b {v w : MW} {n : Nat} {pp tt : Nat → Nat} {u : Int32} {i : Nat} (inj : ∀ a b, a + 1 < n → b + 1 < n → tt a = tt b → a = b) (hi : i + 1 < n) (h : RmI v n pp tt u i w) (c : (v.1 37 (tt i) - 1).toInt = 0 ∧ ¬ (v.1 9 (tt i)).toInt = 8) {x : Int32} (ex : x = xR v u (tt i)) : RmI v n pp tt u (i + 1) (sI (sI (sI w 36 (pp i) 0) 37 (tt i) (w.1 37 (tt i) - 1)) 16 (tt i) x) := by
  refine rm_mid inj hi h (fun c' j c1 c2 c3 => by rw [sI_oth _ _ _ _ _ _ c1, sI_oth _ _ _ _ _ _ c3, sI_oth _ _ _ _ _ _ c2]) rfl (fun q => ?_) (fun t => ?_) (fun t => ?_)
  · rw [sI_oth _ _ _ _ _ _ (by decide), sI_oth _ _ _ _ _ _ (by decide), sI_if]
  · rw [sI_oth _ _ _ _ _ _ (by decide), sI_if, sI_oth _ _ _ _ _ _ (by decide)]
  · rw [sI_if, if_pos c, ex]
    by_cases q : t = tt i
    · rw [if_pos q, if_pos q]
    · rw [if_neg q, if_neg q, sI_oth _ _ _ _ _ _ (by decide), sI_oth _ _ _ _ _ _ (by decide)]
theorem rmv_19 {v : MW} {k u : Int32} {n : Nat} {pp tt : Nat → Nat} {E E' Q Q' : MW → Prop} (H : RmH v k.toInt.toNat n pp tt) (kE : ∀ w', RmI v n pp tt u n w' → E w' → E' w') : ∀ (m : Nat) (p4 x : Int32) (i : Nat) (w : MW), q_Wa_remove_19 k u E Q m p4 x w → x.toInt = i → i ≤ n → (i < n → p4 = nI (pp i)) → RmI v n pp tt u i w → q_Wa_remove_19 k u E' Q' m p4 x w := by
  obtain ⟨e31, n24, h35, h13, injp, injt, _⟩ := H
  intro m
  induction m with
  | zero => exact fun _ _ _ _ h _ _ _ _ => False.elim h
  | succ m ih =>
    intro p4 x i w h xe ile pe inv
    have r := inv.1
    have r31 : w.1 31 k.toInt.toNat = v.1 31 k.toInt.toNat := r 31 _ (by decide) (by decide) (by decide)
    have ex := ti_add2 xe i_1 (by omega) (by omega)
    rw [q_Wa_remove_19.eq_2, nar_b0] at h ⊢
    refine ⟨h.1, fun c => ?_, fun c => ?_⟩
    · rw [r31] at c
      have e : i = n := by omega
      refine kE w ?_ (h.2.1 (by rw [r31]; exact c))
      rw [e] at inv
      exact inv
    · have c' := c
      rw [r31] at c'
      have hi : i < n := by omega
      have P := h35 i hi
      have pt : p4.toInt = pp i := by
        rw [pe hi]
        exact nI_toInt (by omega)
      have pn : p4.toInt.toNat = pp i := by omega
      have G := h.2.2 c
      rw [pn] at G ⊢
      have e35 : w.1 35 (pp i) = v.1 35 (pp i) := r 35 _ (by decide) (by decide) (by decide)
      refine ⟨fun d => by omega, fun d => ?_⟩
      have G2 := G.2 d
      refine ⟨G2.1, G2.2.1, fun e => ?_, fun e => ?_⟩
      · have ln : ¬ i + 1 < n := fun q => by
          have q2 := P.2
          rw [if_pos q] at q2
          rw [e35, q2, nI_toInt (by have := (h35 (i + 1) q).1; omega)] at e
          omega
        exact ⟨(G2.2.2.1 e).1, ih _ _ (i + 1) _ (G2.2.2.1 e).2 (by omega) (by omega) (fun z => absurd z ln) (rm_last ln inv)⟩
      · have hn : i + 1 < n := Classical.not_not.mp (fun q => by
          have q2 := P.2
          rw [if_neg q] at q2
          rw [e35, q2] at e
          exact e (by decide))
        have nx : w.1 35 (pp i) = nI (pp (i + 1)) := by
          rw [e35, P.2, if_pos hn]
        have K := G2.2.2.2 e
        have r34 : w.1 34 (pp i) = v.1 34 (pp i) := r 34 _ (by decide) (by decide) (by decide)
        have eT : (w.1 13 ((w.1 34 (pp i)).toInt.toNat)).toInt.toNat = tt i := by
          rw [r34, r 13 _ (by decide) (by decide) (by decide)]
          have := h13 i hn
          omega
        have self := (inv.2.2.2 (tt i)).2 (fun j hj hjn e' => by have := injt j i hjn hn e'; omega)
        have r9 : w.1 9 (tt i) = v.1 9 (tt i) := r 9 _ (by decide) (by decide) (by decide)
        have r40 : w.1 40 (tt i) = v.1 40 (tt i) := r 40 _ (by decide) (by decide) (by decide)
        rw [eT, sI_same] at K ⊢
        have nxt : ∀ (w' : MW), RmI v n pp tt u (i + 1) w' → q_Wa_remove_19 k u E Q m (w.1 35 (pp i)) (x + (1 : Int32)) w' → q_Wa_remove_19 k u E' Q' m (w.1 35 (pp i)) (x + (1 : Int32)) w' := fun w' hw g => ih _ _ (i + 1) w' g (by omega) (by omega) (fun _ => nx) hw
        refine ⟨K.1, K.2.1, K.2.2.1, K.2.2.2.1, K.2.2.2.2.1, fun c1 => ⟨(K.2.2.2.2.2.1 c1).1, nxt _ (rm_a injt hn inv (fun z => c1 (by rw [self.1]; exact z.1))) (K.2.2.2.2.2.1 c1).2⟩, fun c1 => ?_⟩
        have c1' : (v.1 37 (tt i) - 1).toInt = 0 := by
          have := Classical.not_not.mp c1
          rw [self.1] at this
          exact this
        have L := K.2.2.2.2.2.2 c1
        refine ⟨L.1, fun c2 => ⟨(L.2.1 c2).1, nxt _ (rm_a injt hn inv (fun z => z.2 (by rw [← r9]; exact c2))) (L.2.1 c2).2⟩, fun c2 => ?_⟩
        have c2' : ¬ (v.1 9 (tt i)).toInt = 8 := by rw [← r9]; exact c2
        have M := L.2.2 c2
        refine ⟨fun c3 => ⟨(M.1 c3).1, fun c4 => ⟨((M.1 c3).2.1 c4).1, ((M.1 c3).2.1 c4).2.1, nxt _ (rm_b injt hn inv ⟨c1', c2'⟩ ?_) ((M.1 c3).2.1 c4).2.2⟩, fun c4 => ⟨((M.1 c3).2.2 c4).1, ((M.1 c3).2.2 c4).2.1, nxt _ (rm_b injt hn inv ⟨c1', c2'⟩ ?_) ((M.1 c3).2.2 c4).2.2⟩⟩, fun c3 => ⟨(M.2 c3).1, (M.2 c3).2.1, (M.2 c3).2.2.1, nxt _ (rm_b injt hn inv ⟨c1', c2'⟩ ?_) (M.2 c3).2.2.2⟩⟩
        · unfold xR
          rw [if_pos c3, if_neg (by rw [← r9]; exact c4)]
        · unfold xR
          rw [if_pos c3, if_pos (by rw [← r9]; exact Classical.not_not.mp c4)]
        · unfold xR
          rw [if_neg c3]
          exact r40
/-- rows of ways move up by one from k on -/
def shC (c : Nat) : Bool := c == 27 || c == 28 || c == 29 || c == 30 || c == 31 || c == 32 || c == 33
def ShI (v : MW) (k x : Nat) (w : MW) : Prop := w.2 = v.2 ∧ (∀ c j, shC c = false → w.1 c j = v.1 c j) ∧ ∀ c j, shC c = true → w.1 c j = if k ≤ j ∧ j < x then v.1 c (j + 1) else v.1 c j
theorem sh_c {c : Nat} (h : shC c = true) : c = 27 ∨ c = 28 ∨ c = 29 ∨ c = 30 ∨ c = 31 ∨ c = 32 ∨ c = 33 := by
  unfold shC at h
  simp only [Bool.or_eq_true, beq_iff_eq] at h
  omega
theorem sh_168 {v : MW} {k : Nat} {E E' Q Q' : MW → Prop} (kE : ∀ w', ShI v k (v.1 26 1).toInt.toNat w' → E w' → E' w') : ∀ (m : Nat) (x : Int32) (w : MW), q_Wa_remove_168 E Q m x w → (k : Int) ≤ x.toInt → x.toInt ≤ (v.1 26 1).toInt → ShI v k x.toInt.toNat w → q_Wa_remove_168 E' Q' m x w := by
  intro m
  induction m with
  | zero => exact fun _ _ h _ _ _ => False.elim h
  | succ m ih =>
    intro x w h kx xn inv
    have r26 : w.1 26 1 = v.1 26 1 := inv.2.1 26 1 rfl
    rw [q_Wa_remove_168.eq_2, r26] at h ⊢
    refine ⟨fun c => kE w ?_ (h.1 c), fun c => ?_⟩
    · have e : x.toInt.toNat = (v.1 26 1).toInt.toNat := by omega
      rw [e] at inv
      exact inv
    · have H := h.2 c
      have xb := H.2.1
      have ex := ti_add2 (Eq.refl x.toInt) i_1 (by omega) (by omega)
      have en : (x + (1 : Int32)).toInt.toNat = x.toInt.toNat + 1 := by omega
      rw [en] at H ⊢
      refine ⟨H.1, H.2.1, H.2.2.1, H.2.2.2.1, H.2.2.2.2.1, H.2.2.2.2.2.1, H.2.2.2.2.2.2.1, H.2.2.2.2.2.2.2.1, H.2.2.2.2.2.2.2.2.1, H.2.2.2.2.2.2.2.2.2.1, H.2.2.2.2.2.2.2.2.2.2.1, H.2.2.2.2.2.2.2.2.2.2.2.1, H.2.2.2.2.2.2.2.2.2.2.2.2.1, H.2.2.2.2.2.2.2.2.2.2.2.2.2.1, ih _ _ H.2.2.2.2.2.2.2.2.2.2.2.2.2.2 (by omega) (by omega) ?_⟩
      rw [en]
      refine ⟨inv.1, fun c' j hc => ?_, fun c' j hc => ?_⟩
      · have n : ∀ i : Nat, shC i = true → ¬ c' = i := fun i hi e => by rw [e, hi] at hc; cases hc
        rw [sI_oth _ _ _ _ _ _ (n 33 rfl), sI_oth _ _ _ _ _ _ (n 32 rfl), sI_oth _ _ _ _ _ _ (n 31 rfl), sI_oth _ _ _ _ _ _ (n 30 rfl), sI_oth _ _ _ _ _ _ (n 29 rfl), sI_oth _ _ _ _ _ _ (n 28 rfl), sI_oth _ _ _ _ _ _ (n 27 rfl)]
        exact inv.2.1 c' j hc
      · have g : ∀ y : Int32, y = w.1 c' (x.toInt.toNat + 1) → (if j = x.toInt.toNat then y else w.1 c' j) = if k ≤ j ∧ j < x.toInt.toNat + 1 then v.1 c' (j + 1) else v.1 c' j := fun y hy => by
          have i1 := inv.2.2 c' j hc
          have i2 := inv.2.2 c' (x.toInt.toNat + 1) hc
          by_cases q : j = x.toInt.toNat
          · rw [if_pos q, if_pos ⟨by omega, by omega⟩, hy, i2, if_neg (fun z => by have := z.2; omega), q]
          · rw [if_neg q, i1]
            by_cases q2 : k ≤ j ∧ j < x.toInt.toNat
            · rw [if_pos q2, if_pos ⟨q2.1, by omega⟩]
            · rw [if_neg q2, if_neg (fun z => q2 ⟨z.1, by omega⟩)]
        rcases sh_c hc with e | e | e | e | e | e | e
        all_goals
          subst e
          rw [← g _ rfl]
          simp only [sI_at]
          by_cases q : j = x.toInt.toNat
          · simp [q]
          · simp [q]
/-- what is left behind remove -/
def RmC (v : MW) (k n : Nat) (pp tt : Nat → Nat) (u : Int32) (v' : MW) : Prop := ∃ w : MW, RmI v n pp tt u n w ∧ ShI (sI w 26 1 ((w.1 26 1) - (1 : Int32))) k ((w.1 26 1) - (1 : Int32)).toInt.toNat v'
theorem rm_x {v : MW} {k u : Int32} {n : Nat} {pp tt : Nat → Nat} {Q Q' : MW → Prop} (h : p_Wa_remove v k u Q) (H : RmH v k.toInt.toNat n pp tt) (n1 : 1 ≤ n) (k0 : 0 ≤ k.toInt) (k1 : k.toInt < (v.1 26 1).toInt) (n26 : (v.1 26 1).toInt ≤ 24) (kQ : ∀ v', RmC v k.toInt.toNat n pp tt u v' → Q v' → Q' v') : p_Wa_remove v k u Q' := by
  rw [p_Wa_remove.eq_1] at h ⊢
  have hb := h.2.1
  refine ⟨h.1, h.2.1, rmv_19 H (fun w inv g => ?_) _ _ _ 0 _ h.2.2 i_0 (by omega) (fun _ => H.2.2.2.2.2.2) ⟨fun _ _ _ _ _ => rfl, rfl, fun q => ⟨fun z => ?_, fun _ => rfl⟩, fun t => ⟨fun z => ?_, fun _ => ⟨rfl, rfl⟩⟩⟩⟩
  · have r26 : w.1 26 1 = v.1 26 1 := inv.1 26 1 (by decide) (by decide) (by decide)
    have e26 : (sI w 26 1 ((w.1 26 1) - (1 : Int32))).1 26 1 = (w.1 26 1) - (1 : Int32) := sI_same _ _ _ _
    have es : ((w.1 26 1) - (1 : Int32)).toInt = (v.1 26 1).toInt - 1 := by
      rw [r26]
      exact ti_sub2 rfl i_1 (by omega) (by omega)
    refine sh_168 (v := sI w 26 1 ((w.1 26 1) - (1 : Int32))) (k := k.toInt.toNat) (fun v' sh g2 => kQ v' ⟨w, inv, ?_⟩ g2) _ _ _ g (by omega) (by rw [e26]; omega) ⟨rfl, fun _ _ _ => rfl, fun c j _ => ?_⟩
    · rw [e26] at sh
      exact sh
    · rw [if_neg (fun z => by have := z.1; have := z.2; omega)]
  · obtain ⟨j, hj, _⟩ := z
    omega
  · obtain ⟨j, hj, _⟩ := z
    omega
