/-! the class reads a plant: letters and numbers -/
theorem sI_sI (w : MW) (k j : Nat) (a b : Int32) : sI (sI w k j a) k j b = sI w k j b := by
  have e : (sI (sI w k j a) k j b).1 = (sI w k j b).1 := by
    funext x y
    rw [sI_at, sI_at, sI_at]
    by_cases q : x = k ∧ y = j
    · rw [if_pos q, if_pos q]
    · rw [if_neg q, if_neg q, if_neg q]
  exact Prod.ext e rfl
theorem sI_eta (w : MW) (k j : Nat) : sI w k j (w.1 k j) = w := by
  have e : (sI w k j (w.1 k j)).1 = w.1 := by
    funext x y
    rw [sI_at]
    by_cases q : x = k ∧ y = j
    · rw [if_pos q, q.1, q.2]
    · rw [if_neg q]
  exact Prod.ext e rfl
theorem sI_cm (w : MW) (k j l m : Nat) (a b : Int32) (h : ¬ (k = l ∧ j = m)) : sI (sI w k j a) l m b = sI (sI w l m b) k j a := by
  have e : (sI (sI w k j a) l m b).1 = (sI (sI w l m b) k j a).1 := by
    funext x y
    rw [sI_at, sI_at, sI_at, sI_at]
    by_cases q : x = l ∧ y = m
    · rw [if_pos q]
      by_cases q2 : x = k ∧ y = j
      · exact absurd ⟨q2.1.symm.trans q.1, q2.2.symm.trans q.2⟩ h
      · rw [if_neg q2, if_pos q]
    · rw [if_neg q, if_neg q]
  exact Prod.ext e rfl
/-- letters one behind the other: were they all there, and where it stands -/
def tks (f : Int → Int) : List Int → Int → Bool × Int
  | [], p => (true, p)
  | c :: l, p => if f p = c then tks f l (p + 1) else (false, p)
/-- the class's bytes as a function -/
def cf (w : MW) (p : Int) : Int := if 0 ≤ p ∧ p < (w.1 1 2).toInt then (cby (w.1 2 (p.toNat / 4)) (p.toNat % 4)).toInt else -1
theorem cv_cf (w : MW) (p : Int32) : (cv w p).toInt = cf w p.toInt := by
  unfold cv cf
  by_cases h : 0 ≤ p.toInt ∧ p.toInt < (w.1 1 2).toInt
  · rw [if_pos h, if_pos h]
  · rw [if_neg h, if_neg h]
    exact i_m1
theorem cf_sI {w : MW} {k j : Nat} {v : Int32} (h : k = 91) : cf (sI w k j v) = cf w := by
  subst h
  funext p
  unfold cf
  rw [sI_oth w 91 j v 1 2 (by decide)]
  by_cases q : 0 ≤ p ∧ p < (w.1 1 2).toInt
  · rw [if_pos q, if_pos q, sI_oth w 91 j v 2 _ (by decide)]
  · rw [if_neg q, if_neg q]
def tI (n : Int) : Int32 := Int32.ofInt n
theorem tI_t {n : Int} (h1 : -2147483648 ≤ n) (h2 : n ≤ 2147483647) : (tI n).toInt = n := by
  unfold tI
  have e : ((Int32.size : Nat) : Int) = 4294967296 := rfl
  rw [Int32.toInt_ofInt, Int.bmod_eq_of_le (by omega) (by omega)]
theorem tI_of (x : Int32) : tI x.toInt = x := ti_inj (by rw [tI_t (ti_lo x) (ti_hi x)])
theorem tks_le (f : Int → Int) : ∀ (l : List Int) (p : Int), p ≤ (tks f l p).2 ∧ (tks f l p).2 ≤ p + l.length := by
  intro l
  induction l with
  | nil => intro p; exact ⟨Int.le_refl _, by show p ≤ p + ((0 : Nat) : Int); omega⟩
  | cons c l ih =>
    intro p
    have e : tks f (c :: l) p = if f p = c then tks f l (p + 1) else (false, p) := rfl
    rw [e]
    have hl : ((c :: l).length : Int) = (l.length : Int) + 1 := by rw [List.length_cons]; rfl
    by_cases q : f p = c
    · rw [if_pos q]
      have := ih (p + 1)
      omega
    · rw [if_neg q]
      show p ≤ p ∧ p ≤ _
      omega
/-- the class's takes, for the text k of n letters -/
def ltr (k n : Nat) : List Int := (List.range n).map fun i => (chT k (nI i)).toInt
theorem tks_st (f : Int → Int) (l1 l2 : List Int) (p : Int) (h : (tks f l1 p).1 = true) : tks f (l1 ++ l2) p = tks f l2 (p + l1.length) := by
  induction l1 generalizing p with
  | nil =>
    show tks f l2 p = tks f l2 (p + ((0 : Nat) : Int))
    rw [show p + ((0 : Nat) : Int) = p by omega]
  | cons c l ih =>
    have e : ∀ l', tks f (c :: l') p = if f p = c then tks f l' (p + 1) else (false, p) := fun _ => rfl
    rw [List.cons_append, e]
    rw [e] at h
    by_cases q : f p = c
    · rw [if_pos q] at h ⊢
      rw [ih (p + 1) h]
      have hl : ((c :: l).length : Int) = (l.length : Int) + 1 := by rw [List.length_cons]; rfl
      rw [hl, show p + 1 + (l.length : Int) = p + ((l.length : Int) + 1) by omega]
    · rw [if_neg q] at h
      exact absurd (show false = true from h) (by decide)
/-- takes of one text -/
theorem cf_pos {w : MW} {p : Int} (h : ¬ cf w p = -1) : 0 ≤ p ∧ p < (w.1 1 2).toInt := by
  unfold cf at h
  by_cases q : 0 ≤ p ∧ p < (w.1 1 2).toInt
  · exact q
  · rw [if_neg q] at h
    exact absurd rfl h
theorem ltr_s (k n : Nat) : ltr k (n + 1) = ltr k n ++ [(chT k (nI n)).toInt] := by
  unfold ltr
  rw [List.range_succ, List.map_append]
  rfl
theorem ltr_l (k n : Nat) : (ltr k n).length = n := by
  unfold ltr
  rw [List.length_map, List.length_range]
theorem ltr_a (k n m : Nat) : ∃ l, ltr k (n + m) = ltr k n ++ l := by
  induction m with
  | zero => exact ⟨[], (List.append_nil _).symm⟩
  | succ m ih =>
    obtain ⟨l, e⟩ := ih
    refine ⟨l ++ [(chT k (nI (n + m))).toInt], ?_⟩
    rw [← Nat.add_assoc, ltr_s, e, List.append_assoc]
theorem tks_f (f : Int → Int) (l1 l2 : List Int) (p q : Int) (h : tks f l1 p = (false, q)) : tks f (l1 ++ l2) p = (false, q) := by
  induction l1 generalizing p with
  | nil =>
    have : (true, p) = (false, q) := h
    exact absurd (show true = false from congrArg Prod.fst this) (by decide)
  | cons c l ih =>
    have e : ∀ l', tks f (c :: l') p = if f p = c then tks f l' (p + 1) else (false, p) := fun _ => rfl
    rw [List.cons_append, e]
    rw [e] at h
    by_cases q : f p = c
    · rw [if_pos q] at h ⊢
      exact ih (p + 1) h
    · rw [if_neg q] at h ⊢
      exact h
theorem tl_2001 {w0 : MW} {P : Int} {E : MW → Prop} {Q : Int32 → MW → Prop} (hI : BND w0) (hr : w0.2.2 91 9 = some 1) (P0 : 0 ≤ P) (P1 : P ≤ 4000) (hE : tks (cf w0) (ltr 1 5) P = (true, P + 5) → P + 5 ≤ 4000 → E (sI w0 91 10 (tI (P + 5)))) (hQ : ∀ q, tks (cf w0) (ltr 1 5) P = (false, q) → 0 ≤ q → q ≤ 4000 → Q 0 (sI w0 91 10 (tI q))) (m : Nat) : ∀ i : Nat, i ≤ 5 → P + i ≤ 4000 → tks (cf w0) (ltr 1 i) P = (true, P + i) → 5 - i < m → q_Pl_takess91_2001_2 E Q m (nI i) (sI w0 91 10 (tI (P + i))) := by
  induction m with
  | zero => intros; omega
  | succ m ih =>
    intro i hi hp ht hm
    have ti : (nI i).toInt = (i : Int) := nI_toInt (by omega)
    have be := bd_1_2 hI
    rw [q_Pl_takess91_2001_2.eq_2]
    refine ⟨fun c => ?_, fun c => ?_⟩
    · obtain rfl : i = 5 := by omega
      exact hE ht hp
    have e9 : (sI w0 91 10 (tI (P + i))).2.2 91 9 = some 1 := hr
    have e10 : (sI w0 91 10 (tI (P + i))).1 91 10 = tI (P + i) := sI_same _ _ _ _
    have hB : BND (sI w0 91 10 (tI (P + i))) := wbd_91_10 hI (by rw [tI_t (by omega) (by omega)]; omega) (by rw [tI_t (by omega) (by omega)]; omega)
    refine ⟨e9, at_x hB ?_⟩
    rw [e10]
    have ev : (cv (sI w0 91 10 (tI (P + i))) (tI (P + i))).toInt = cf w0 (P + i) := by
      rw [cv_cf, cf_sI rfl, tI_t (by omega) (by omega)]
    have cb := nb_ch 1 (nI i)
    have st := tks_st (cf w0) (ltr 1 i) [(chT 1 (nI i)).toInt] P (by rw [ht])
    rw [← ltr_s, ltr_l] at st
    have e1 : tks (cf w0) [(chT 1 (nI i)).toInt] (P + i) = if cf w0 (P + i) = (chT 1 (nI i)).toInt then (true, P + i + 1) else (false, P + i) := rfl
    refine ⟨⟨by omega, by omega⟩, fun q => ?_, fun q => ?_⟩
    · rw [ev] at q
      have cp := cf_pos (w := w0) (p := P + i) (by omega)
      rw [nI_1, sI_sI]
      have e2 : tI (P + i) + (1 : Int32) = tI (P + ((i + 1 : Nat) : Int)) := ti_inj (by
        rw [ti_add2 (tI_t (by omega) (by omega)) i_1 (by omega) (by omega), tI_t (by omega) (by omega)]
        omega)
      rw [e2]
      refine ih (i + 1) (by omega) (by omega) ?_ (by omega)
      rw [st, e1, if_pos q]
      have : P + (i : Int) + 1 = P + ((i + 1 : Nat) : Int) := by omega
      rw [this]
    · rw [ev] at q
      refine hQ _ ?_ (by omega) hp
      obtain ⟨l, el⟩ := ltr_a 1 (i + 1) (5 - (i + 1))
      have e3 : i + 1 + (5 - (i + 1)) = 5 := by omega
      rw [e3] at el
      rw [el]
      refine tks_f _ _ _ _ _ ?_
      rw [st, e1, if_neg q]
theorem tx_2001 {w : MW} {Q : Int32 → MW → Prop} (hI : BND w) (hr : w.2.2 91 9 = some 1) (hQ : ∀ (b : Bool) (q : Int), tks (cf w) (ltr 1 5) (w.1 91 10).toInt = (b, q) → 0 ≤ q → q ≤ 4000 → Q (if b then 1 else 0) (sI w 91 10 (tI q))) : p_Pl_takess91_2001 w Q := by
  have b := bd_91_10 hI
  refine Eq.mpr (p_Pl_takess91_2001.eq_1 _ _) ?_
  have k := tl_2001 (w0 := w) (P := (w.1 91 10).toInt) (E := fun w6 => Q 1 w6) (Q := Q) hI hr b.1 b.2 (fun h1 h2 => hQ true _ h1 (by omega) h2) (fun q h1 h2 h3 => hQ false q h1 h2 h3) FU 0 (by omega) (by omega) (by
    show (true, (w.1 91 10).toInt) = (true, (w.1 91 10).toInt + ((0 : Nat) : Int))
    rw [show (w.1 91 10).toInt + ((0 : Nat) : Int) = (w.1 91 10).toInt by omega]) (fu_lt (by decide))
  have e : sI w 91 10 (tI ((w.1 91 10).toInt + ((0 : Nat) : Int))) = w := by
    rw [show (w.1 91 10).toInt + ((0 : Nat) : Int) = (w.1 91 10).toInt by omega, tI_of, sI_eta]
  rw [e] at k
  exact k
theorem tl_2002 {w0 : MW} {P : Int} {E : MW → Prop} {Q : Int32 → MW → Prop} (hI : BND w0) (hr : w0.2.2 91 9 = some 1) (P0 : 0 ≤ P) (P1 : P ≤ 4000) (hE : tks (cf w0) (ltr 2 6) P = (true, P + 6) → P + 6 ≤ 4000 → E (sI w0 91 10 (tI (P + 6)))) (hQ : ∀ q, tks (cf w0) (ltr 2 6) P = (false, q) → 0 ≤ q → q ≤ 4000 → Q 0 (sI w0 91 10 (tI q))) (m : Nat) : ∀ i : Nat, i ≤ 6 → P + i ≤ 4000 → tks (cf w0) (ltr 2 i) P = (true, P + i) → 6 - i < m → q_Pl_takess91_2002_2 E Q m (nI i) (sI w0 91 10 (tI (P + i))) := by
  induction m with
  | zero => intros; omega
  | succ m ih =>
    intro i hi hp ht hm
    have ti : (nI i).toInt = (i : Int) := nI_toInt (by omega)
    have be := bd_1_2 hI
    rw [q_Pl_takess91_2002_2.eq_2]
    refine ⟨fun c => ?_, fun c => ?_⟩
    · obtain rfl : i = 6 := by omega
      exact hE ht hp
    have e9 : (sI w0 91 10 (tI (P + i))).2.2 91 9 = some 1 := hr
    have e10 : (sI w0 91 10 (tI (P + i))).1 91 10 = tI (P + i) := sI_same _ _ _ _
    have hB : BND (sI w0 91 10 (tI (P + i))) := wbd_91_10 hI (by rw [tI_t (by omega) (by omega)]; omega) (by rw [tI_t (by omega) (by omega)]; omega)
    refine ⟨e9, at_x hB ?_⟩
    rw [e10]
    have ev : (cv (sI w0 91 10 (tI (P + i))) (tI (P + i))).toInt = cf w0 (P + i) := by
      rw [cv_cf, cf_sI rfl, tI_t (by omega) (by omega)]
    have cb := nb_ch 2 (nI i)
    have st := tks_st (cf w0) (ltr 2 i) [(chT 2 (nI i)).toInt] P (by rw [ht])
    rw [← ltr_s, ltr_l] at st
    have e1 : tks (cf w0) [(chT 2 (nI i)).toInt] (P + i) = if cf w0 (P + i) = (chT 2 (nI i)).toInt then (true, P + i + 1) else (false, P + i) := rfl
    refine ⟨⟨by omega, by omega⟩, fun q => ?_, fun q => ?_⟩
    · rw [ev] at q
      have cp := cf_pos (w := w0) (p := P + i) (by omega)
      rw [nI_1, sI_sI]
      have e2 : tI (P + i) + (1 : Int32) = tI (P + ((i + 1 : Nat) : Int)) := ti_inj (by
        rw [ti_add2 (tI_t (by omega) (by omega)) i_1 (by omega) (by omega), tI_t (by omega) (by omega)]
        omega)
      rw [e2]
      refine ih (i + 1) (by omega) (by omega) ?_ (by omega)
      rw [st, e1, if_pos q]
      have : P + (i : Int) + 1 = P + ((i + 1 : Nat) : Int) := by omega
      rw [this]
    · rw [ev] at q
      refine hQ _ ?_ (by omega) hp
      obtain ⟨l, el⟩ := ltr_a 2 (i + 1) (6 - (i + 1))
      have e3 : i + 1 + (6 - (i + 1)) = 6 := by omega
      rw [e3] at el
      rw [el]
      refine tks_f _ _ _ _ _ ?_
      rw [st, e1, if_neg q]
theorem tx_2002 {w : MW} {Q : Int32 → MW → Prop} (hI : BND w) (hr : w.2.2 91 9 = some 1) (hQ : ∀ (b : Bool) (q : Int), tks (cf w) (ltr 2 6) (w.1 91 10).toInt = (b, q) → 0 ≤ q → q ≤ 4000 → Q (if b then 1 else 0) (sI w 91 10 (tI q))) : p_Pl_takess91_2002 w Q := by
  have b := bd_91_10 hI
  refine Eq.mpr (p_Pl_takess91_2002.eq_1 _ _) ?_
  have k := tl_2002 (w0 := w) (P := (w.1 91 10).toInt) (E := fun w6 => Q 1 w6) (Q := Q) hI hr b.1 b.2 (fun h1 h2 => hQ true _ h1 (by omega) h2) (fun q h1 h2 h3 => hQ false q h1 h2 h3) FU 0 (by omega) (by omega) (by
    show (true, (w.1 91 10).toInt) = (true, (w.1 91 10).toInt + ((0 : Nat) : Int))
    rw [show (w.1 91 10).toInt + ((0 : Nat) : Int) = (w.1 91 10).toInt by omega]) (fu_lt (by decide))
  have e : sI w 91 10 (tI ((w.1 91 10).toInt + ((0 : Nat) : Int))) = w := by
    rw [show (w.1 91 10).toInt + ((0 : Nat) : Int) = (w.1 91 10).toInt by omega, tI_of, sI_eta]
  rw [e] at k
  exact k
theorem tl_2003 {w0 : MW} {P : Int} {E : MW → Prop} {Q : Int32 → MW → Prop} (hI : BND w0) (hr : w0.2.2 91 9 = some 1) (P0 : 0 ≤ P) (P1 : P ≤ 4000) (hE : tks (cf w0) (ltr 3 4) P = (true, P + 4) → P + 4 ≤ 4000 → E (sI w0 91 10 (tI (P + 4)))) (hQ : ∀ q, tks (cf w0) (ltr 3 4) P = (false, q) → 0 ≤ q → q ≤ 4000 → Q 0 (sI w0 91 10 (tI q))) (m : Nat) : ∀ i : Nat, i ≤ 4 → P + i ≤ 4000 → tks (cf w0) (ltr 3 i) P = (true, P + i) → 4 - i < m → q_Pl_takess91_2003_2 E Q m (nI i) (sI w0 91 10 (tI (P + i))) := by
  induction m with
  | zero => intros; omega
  | succ m ih =>
    intro i hi hp ht hm
    have ti : (nI i).toInt = (i : Int) := nI_toInt (by omega)
    have be := bd_1_2 hI
    rw [q_Pl_takess91_2003_2.eq_2]
    refine ⟨fun c => ?_, fun c => ?_⟩
    · obtain rfl : i = 4 := by omega
      exact hE ht hp
    have e9 : (sI w0 91 10 (tI (P + i))).2.2 91 9 = some 1 := hr
    have e10 : (sI w0 91 10 (tI (P + i))).1 91 10 = tI (P + i) := sI_same _ _ _ _
    have hB : BND (sI w0 91 10 (tI (P + i))) := wbd_91_10 hI (by rw [tI_t (by omega) (by omega)]; omega) (by rw [tI_t (by omega) (by omega)]; omega)
    refine ⟨e9, at_x hB ?_⟩
    rw [e10]
    have ev : (cv (sI w0 91 10 (tI (P + i))) (tI (P + i))).toInt = cf w0 (P + i) := by
      rw [cv_cf, cf_sI rfl, tI_t (by omega) (by omega)]
    have cb := nb_ch 3 (nI i)
    have st := tks_st (cf w0) (ltr 3 i) [(chT 3 (nI i)).toInt] P (by rw [ht])
    rw [← ltr_s, ltr_l] at st
    have e1 : tks (cf w0) [(chT 3 (nI i)).toInt] (P + i) = if cf w0 (P + i) = (chT 3 (nI i)).toInt then (true, P + i + 1) else (false, P + i) := rfl
    refine ⟨⟨by omega, by omega⟩, fun q => ?_, fun q => ?_⟩
    · rw [ev] at q
      have cp := cf_pos (w := w0) (p := P + i) (by omega)
      rw [nI_1, sI_sI]
      have e2 : tI (P + i) + (1 : Int32) = tI (P + ((i + 1 : Nat) : Int)) := ti_inj (by
        rw [ti_add2 (tI_t (by omega) (by omega)) i_1 (by omega) (by omega), tI_t (by omega) (by omega)]
        omega)
      rw [e2]
      refine ih (i + 1) (by omega) (by omega) ?_ (by omega)
      rw [st, e1, if_pos q]
      have : P + (i : Int) + 1 = P + ((i + 1 : Nat) : Int) := by omega
      rw [this]
    · rw [ev] at q
      refine hQ _ ?_ (by omega) hp
      obtain ⟨l, el⟩ := ltr_a 3 (i + 1) (4 - (i + 1))
      have e3 : i + 1 + (4 - (i + 1)) = 4 := by omega
      rw [e3] at el
      rw [el]
      refine tks_f _ _ _ _ _ ?_
      rw [st, e1, if_neg q]
theorem tx_2003 {w : MW} {Q : Int32 → MW → Prop} (hI : BND w) (hr : w.2.2 91 9 = some 1) (hQ : ∀ (b : Bool) (q : Int), tks (cf w) (ltr 3 4) (w.1 91 10).toInt = (b, q) → 0 ≤ q → q ≤ 4000 → Q (if b then 1 else 0) (sI w 91 10 (tI q))) : p_Pl_takess91_2003 w Q := by
  have b := bd_91_10 hI
  refine Eq.mpr (p_Pl_takess91_2003.eq_1 _ _) ?_
  have k := tl_2003 (w0 := w) (P := (w.1 91 10).toInt) (E := fun w6 => Q 1 w6) (Q := Q) hI hr b.1 b.2 (fun h1 h2 => hQ true _ h1 (by omega) h2) (fun q h1 h2 h3 => hQ false q h1 h2 h3) FU 0 (by omega) (by omega) (by
    show (true, (w.1 91 10).toInt) = (true, (w.1 91 10).toInt + ((0 : Nat) : Int))
    rw [show (w.1 91 10).toInt + ((0 : Nat) : Int) = (w.1 91 10).toInt by omega]) (fu_lt (by decide))
  have e : sI w 91 10 (tI ((w.1 91 10).toInt + ((0 : Nat) : Int))) = w := by
    rw [show (w.1 91 10).toInt + ((0 : Nat) : Int) = (w.1 91 10).toInt by omega, tI_of, sI_eta]
  rw [e] at k
  exact k
theorem tl_2004 {w0 : MW} {P : Int} {E : MW → Prop} {Q : Int32 → MW → Prop} (hI : BND w0) (hr : w0.2.2 91 9 = some 1) (P0 : 0 ≤ P) (P1 : P ≤ 4000) (hE : tks (cf w0) (ltr 4 5) P = (true, P + 5) → P + 5 ≤ 4000 → E (sI w0 91 10 (tI (P + 5)))) (hQ : ∀ q, tks (cf w0) (ltr 4 5) P = (false, q) → 0 ≤ q → q ≤ 4000 → Q 0 (sI w0 91 10 (tI q))) (m : Nat) : ∀ i : Nat, i ≤ 5 → P + i ≤ 4000 → tks (cf w0) (ltr 4 i) P = (true, P + i) → 5 - i < m → q_Pl_takess91_2004_2 E Q m (nI i) (sI w0 91 10 (tI (P + i))) := by
  induction m with
  | zero => intros; omega
  | succ m ih =>
    intro i hi hp ht hm
    have ti : (nI i).toInt = (i : Int) := nI_toInt (by omega)
    have be := bd_1_2 hI
    rw [q_Pl_takess91_2004_2.eq_2]
    refine ⟨fun c => ?_, fun c => ?_⟩
    · obtain rfl : i = 5 := by omega
      exact hE ht hp
    have e9 : (sI w0 91 10 (tI (P + i))).2.2 91 9 = some 1 := hr
    have e10 : (sI w0 91 10 (tI (P + i))).1 91 10 = tI (P + i) := sI_same _ _ _ _
    have hB : BND (sI w0 91 10 (tI (P + i))) := wbd_91_10 hI (by rw [tI_t (by omega) (by omega)]; omega) (by rw [tI_t (by omega) (by omega)]; omega)
    refine ⟨e9, at_x hB ?_⟩
    rw [e10]
    have ev : (cv (sI w0 91 10 (tI (P + i))) (tI (P + i))).toInt = cf w0 (P + i) := by
      rw [cv_cf, cf_sI rfl, tI_t (by omega) (by omega)]
    have cb := nb_ch 4 (nI i)
    have st := tks_st (cf w0) (ltr 4 i) [(chT 4 (nI i)).toInt] P (by rw [ht])
    rw [← ltr_s, ltr_l] at st
    have e1 : tks (cf w0) [(chT 4 (nI i)).toInt] (P + i) = if cf w0 (P + i) = (chT 4 (nI i)).toInt then (true, P + i + 1) else (false, P + i) := rfl
    refine ⟨⟨by omega, by omega⟩, fun q => ?_, fun q => ?_⟩
    · rw [ev] at q
      have cp := cf_pos (w := w0) (p := P + i) (by omega)
      rw [nI_1, sI_sI]
      have e2 : tI (P + i) + (1 : Int32) = tI (P + ((i + 1 : Nat) : Int)) := ti_inj (by
        rw [ti_add2 (tI_t (by omega) (by omega)) i_1 (by omega) (by omega), tI_t (by omega) (by omega)]
        omega)
      rw [e2]
      refine ih (i + 1) (by omega) (by omega) ?_ (by omega)
      rw [st, e1, if_pos q]
      have : P + (i : Int) + 1 = P + ((i + 1 : Nat) : Int) := by omega
      rw [this]
    · rw [ev] at q
      refine hQ _ ?_ (by omega) hp
      obtain ⟨l, el⟩ := ltr_a 4 (i + 1) (5 - (i + 1))
      have e3 : i + 1 + (5 - (i + 1)) = 5 := by omega
      rw [e3] at el
      rw [el]
      refine tks_f _ _ _ _ _ ?_
      rw [st, e1, if_neg q]
theorem tx_2004 {w : MW} {Q : Int32 → MW → Prop} (hI : BND w) (hr : w.2.2 91 9 = some 1) (hQ : ∀ (b : Bool) (q : Int), tks (cf w) (ltr 4 5) (w.1 91 10).toInt = (b, q) → 0 ≤ q → q ≤ 4000 → Q (if b then 1 else 0) (sI w 91 10 (tI q))) : p_Pl_takess91_2004 w Q := by
  have b := bd_91_10 hI
  refine Eq.mpr (p_Pl_takess91_2004.eq_1 _ _) ?_
  have k := tl_2004 (w0 := w) (P := (w.1 91 10).toInt) (E := fun w6 => Q 1 w6) (Q := Q) hI hr b.1 b.2 (fun h1 h2 => hQ true _ h1 (by omega) h2) (fun q h1 h2 h3 => hQ false q h1 h2 h3) FU 0 (by omega) (by omega) (by
    show (true, (w.1 91 10).toInt) = (true, (w.1 91 10).toInt + ((0 : Nat) : Int))
    rw [show (w.1 91 10).toInt + ((0 : Nat) : Int) = (w.1 91 10).toInt by omega]) (fu_lt (by decide))
  have e : sI w 91 10 (tI ((w.1 91 10).toInt + ((0 : Nat) : Int))) = w := by
    rw [show (w.1 91 10).toInt + ((0 : Nat) : Int) = (w.1 91 10).toInt by omega, tI_of, sI_eta]
  rw [e] at k
  exact k
theorem tl_2005 {w0 : MW} {P : Int} {E : MW → Prop} {Q : Int32 → MW → Prop} (hI : BND w0) (hr : w0.2.2 91 9 = some 1) (P0 : 0 ≤ P) (P1 : P ≤ 4000) (hE : tks (cf w0) (ltr 5 1) P = (true, P + 1) → P + 1 ≤ 4000 → E (sI w0 91 10 (tI (P + 1)))) (hQ : ∀ q, tks (cf w0) (ltr 5 1) P = (false, q) → 0 ≤ q → q ≤ 4000 → Q 0 (sI w0 91 10 (tI q))) (m : Nat) : ∀ i : Nat, i ≤ 1 → P + i ≤ 4000 → tks (cf w0) (ltr 5 i) P = (true, P + i) → 1 - i < m → q_Pl_takess91_2005_2 E Q m (nI i) (sI w0 91 10 (tI (P + i))) := by
  induction m with
  | zero => intros; omega
  | succ m ih =>
    intro i hi hp ht hm
    have ti : (nI i).toInt = (i : Int) := nI_toInt (by omega)
    have be := bd_1_2 hI
    rw [q_Pl_takess91_2005_2.eq_2]
    refine ⟨fun c => ?_, fun c => ?_⟩
    · obtain rfl : i = 1 := by omega
      exact hE ht hp
    have e9 : (sI w0 91 10 (tI (P + i))).2.2 91 9 = some 1 := hr
    have e10 : (sI w0 91 10 (tI (P + i))).1 91 10 = tI (P + i) := sI_same _ _ _ _
    have hB : BND (sI w0 91 10 (tI (P + i))) := wbd_91_10 hI (by rw [tI_t (by omega) (by omega)]; omega) (by rw [tI_t (by omega) (by omega)]; omega)
    refine ⟨e9, at_x hB ?_⟩
    rw [e10]
    have ev : (cv (sI w0 91 10 (tI (P + i))) (tI (P + i))).toInt = cf w0 (P + i) := by
      rw [cv_cf, cf_sI rfl, tI_t (by omega) (by omega)]
    have cb := nb_ch 5 (nI i)
    have st := tks_st (cf w0) (ltr 5 i) [(chT 5 (nI i)).toInt] P (by rw [ht])
    rw [← ltr_s, ltr_l] at st
    have e1 : tks (cf w0) [(chT 5 (nI i)).toInt] (P + i) = if cf w0 (P + i) = (chT 5 (nI i)).toInt then (true, P + i + 1) else (false, P + i) := rfl
    refine ⟨⟨by omega, by omega⟩, fun q => ?_, fun q => ?_⟩
    · rw [ev] at q
      have cp := cf_pos (w := w0) (p := P + i) (by omega)
      rw [nI_1, sI_sI]
      have e2 : tI (P + i) + (1 : Int32) = tI (P + ((i + 1 : Nat) : Int)) := ti_inj (by
        rw [ti_add2 (tI_t (by omega) (by omega)) i_1 (by omega) (by omega), tI_t (by omega) (by omega)]
        omega)
      rw [e2]
      refine ih (i + 1) (by omega) (by omega) ?_ (by omega)
      rw [st, e1, if_pos q]
      have : P + (i : Int) + 1 = P + ((i + 1 : Nat) : Int) := by omega
      rw [this]
    · rw [ev] at q
      refine hQ _ ?_ (by omega) hp
      obtain ⟨l, el⟩ := ltr_a 5 (i + 1) (1 - (i + 1))
      have e3 : i + 1 + (1 - (i + 1)) = 1 := by omega
      rw [e3] at el
      rw [el]
      refine tks_f _ _ _ _ _ ?_
      rw [st, e1, if_neg q]
theorem tx_2005 {w : MW} {Q : Int32 → MW → Prop} (hI : BND w) (hr : w.2.2 91 9 = some 1) (hQ : ∀ (b : Bool) (q : Int), tks (cf w) (ltr 5 1) (w.1 91 10).toInt = (b, q) → 0 ≤ q → q ≤ 4000 → Q (if b then 1 else 0) (sI w 91 10 (tI q))) : p_Pl_takess91_2005 w Q := by
  have b := bd_91_10 hI
  refine Eq.mpr (p_Pl_takess91_2005.eq_1 _ _) ?_
  have k := tl_2005 (w0 := w) (P := (w.1 91 10).toInt) (E := fun w6 => Q 1 w6) (Q := Q) hI hr b.1 b.2 (fun h1 h2 => hQ true _ h1 (by omega) h2) (fun q h1 h2 h3 => hQ false q h1 h2 h3) FU 0 (by omega) (by omega) (by
    show (true, (w.1 91 10).toInt) = (true, (w.1 91 10).toInt + ((0 : Nat) : Int))
    rw [show (w.1 91 10).toInt + ((0 : Nat) : Int) = (w.1 91 10).toInt by omega]) (fu_lt (by decide))
  have e : sI w 91 10 (tI ((w.1 91 10).toInt + ((0 : Nat) : Int))) = w := by
    rw [show (w.1 91 10).toInt + ((0 : Nat) : Int) = (w.1 91 10).toInt by omega, tI_of, sI_eta]
  rw [e] at k
  exact k
