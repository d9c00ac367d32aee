/-! how a program is laid out: parts of the class, places of the reference -/
/-- what stands inside a statement or a block -/
def kdl (ns : List Nod) (c : Nat) : List Nat := match ns[c]? with
  | some d => if d.1 = 23 then [d.2.2.1.toNat] else d.2.2.2.drop (nxp d.1)
  | none => []
theorem kdl_23 {ns : List Nod} {c : Nat} {d : Nod} (h : ns[c]? = some d) (h2 : d.1 = 23) : kdl ns c = [d.2.2.1.toNat] := by
  unfold kdl
  rw [h]
  exact if_pos h2
theorem kdl_o {ns : List Nod} {c : Nat} {d : Nod} (h : ns[c]? = some d) (h2 : ¬ d.1 = 23) : kdl ns c = d.2.2.2.drop (nxp d.1) := by
  unfold kdl
  rw [h]
  exact if_neg h2
/-- these nodes lie from p to q, h is where the first of them lies: N tells nodes, F what is inside, X what is behind -/
def LayA (ns : List Nod) (N F X : Nat → Int) : Nat → List Nat → Nat → Int → Nat → Prop
  | 0 => fun _ _ _ _ => False
  | k + 1 => fun l p h q => match l with
    | [] => h = -1 ∧ q = p
    | c :: cs => h = (p : Int) ∧ N p = (c : Int) ∧ ∃ m, LayA ns N F X k (kdl ns c) (p + 1) (F p) m ∧ LayA ns N F X k cs m (X p) q
theorem LayA_n (ns : List Nod) (N F X : Nat → Int) (k p : Nat) (h : Int) (q : Nat) : LayA ns N F X (k + 1) [] p h q = (h = -1 ∧ q = p) := rfl
theorem LayA_c (ns : List Nod) (N F X : Nat → Int) (k c : Nat) (cs : List Nat) (p : Nat) (h : Int) (q : Nat) : LayA ns N F X (k + 1) (c :: cs) p h q = (h = (p : Int) ∧ N p = (c : Int) ∧ ∃ m, LayA ns N F X k (kdl ns c) (p + 1) (F p) m ∧ LayA ns N F X k cs m (X p) q) := rfl
theorem LayA_s (ns : List Nod) (N F X : Nat → Int) : ∀ (k : Nat) (l : List Nat) (p : Nat) (h : Int) (q : Nat), LayA ns N F X k l p h q → LayA ns N F X (k + 1) l p h q := by
  intro k
  induction k with
  | zero => exact fun _ _ _ _ h => False.elim h
  | succ k ih =>
    intro l p h q a
    cases l with
    | nil => exact a
    | cons c cs =>
      rw [LayA_c] at a ⊢
      obtain ⟨a1, a2, m, a3, a4⟩ := a
      exact ⟨a1, a2, m, ih _ _ _ _ a3, ih _ _ _ _ a4⟩
theorem LayA_m {ns : List Nod} {N F X : Nat → Int} {k k' : Nat} (hk : k ≤ k') {l : List Nat} {p : Nat} {h : Int} {q : Nat} (a : LayA ns N F X k l p h q) : LayA ns N F X k' l p h q := by
  induction hk with
  | refl => exact a
  | step _ ih => exact LayA_s ns N F X _ l p h q ih
theorem LayA_le {ns : List Nod} {N F X : Nat → Int} : ∀ (k : Nat) (l : List Nat) (p : Nat) (h : Int) (q : Nat), LayA ns N F X k l p h q → p ≤ q ∧ (¬ l = [] → p < q ∧ h = (p : Int)) ∧ (l = [] → h = -1) := by
  intro k
  induction k with
  | zero => exact fun _ _ _ _ h => False.elim h
  | succ k ih =>
    intro l p h q a
    cases l with
    | nil =>
      rw [LayA_n] at a
      exact ⟨by omega, fun z => absurd rfl z, fun _ => a.1⟩
    | cons c cs =>
      rw [LayA_c] at a
      obtain ⟨a1, a2, m, a3, a4⟩ := a
      have t1 := (ih _ _ _ _ a3).1
      have t2 := (ih _ _ _ _ a4).1
      exact ⟨by omega, fun _ => ⟨by omega, a1⟩, fun z => absurd z (List.cons_ne_nil _ _)⟩
theorem LayA_g {ns : List Nod} {N F X N' F' X' : Nat → Int} : ∀ (k : Nat) (l : List Nat) (p : Nat) (h : Int) (q : Nat), LayA ns N F X k l p h q → (∀ j, p ≤ j → j < q → N' j = N j ∧ F' j = F j ∧ X' j = X j) → LayA ns N' F' X' k l p h q := by
  intro k
  induction k with
  | zero => exact fun _ _ _ _ h => False.elim h
  | succ k ih =>
    intro l p h q a e
    cases l with
    | nil => exact a
    | cons c cs =>
      rw [LayA_c] at a ⊢
      obtain ⟨a1, a2, m, a3, a4⟩ := a
      have t1 := (LayA_le _ _ _ _ _ a3).1
      have t2 := (LayA_le _ _ _ _ _ a4).1
      have ep := e p (Nat.le_refl _) (by omega)
      refine ⟨a1, ep.1.trans a2, m, ?_, ?_⟩
      · rw [ep.2.1]
        exact ih _ _ _ _ a3 (fun j j0 j1 => e j (by omega) (by omega))
      · rw [ep.2.2]
        exact ih _ _ _ _ a4 (fun j j0 j1 => e j (by omega) (by omega))
/-- there is one such lie alone -/
theorem LayA_d {ns : List Nod} {N F X N' F' X' : Nat → Int} : ∀ (k k' : Nat) (l : List Nat) (p : Nat) (h h' : Int) (q q' : Nat), LayA ns N F X k l p h q → LayA ns N' F' X' k' l p h' q' → h = h' ∧ q = q' ∧ ∀ j, p ≤ j → j < q → N j = N' j ∧ F j = F' j ∧ X j = X' j := by
  intro k
  induction k with
  | zero => exact fun _ _ _ _ _ _ _ h => False.elim h
  | succ k ih =>
    intro k' l p h h' q q' a b
    cases k' with
    | zero => exact False.elim b
    | succ k' =>
      cases l with
      | nil =>
        rw [LayA_n] at a b
        exact ⟨a.1.trans b.1.symm, a.2.trans b.2.symm, fun j j0 j1 => by omega⟩
      | cons c cs =>
        rw [LayA_c] at a b
        obtain ⟨a1, a2, m, a3, a4⟩ := a
        obtain ⟨b1, b2, m', b3, b4⟩ := b
        obtain ⟨e1, e2, e3⟩ := ih k' _ _ _ _ _ _ a3 b3
        rw [← e2] at b4
        obtain ⟨f1, f2, f3⟩ := ih k' _ _ _ _ _ _ a4 b4
        refine ⟨a1.trans b1.symm, f2, fun j j0 j1 => ?_⟩
        by_cases c1 : j = p
        · rw [c1]
          exact ⟨a2.trans b2.symm, e1, f1⟩
        · by_cases c2 : j < m
          · exact e3 j (by omega) c2
          · exact f3 j (by omega) j1
/-- while it is laid: the last lies at la, and what is behind it is not told yet -/
def LayB (ns : List Nod) (N F X : Nat → Int) : List Nat → Nat → Int → Nat → Nat → Prop
  | [], _, _, _, _ => False
  | c :: cs, p, h, la, q => h = (p : Int) ∧ N p = (c : Int) ∧ ∃ m k, LayA ns N F X k (kdl ns c) (p + 1) (F p) m ∧ ((cs = [] ∧ la = p ∧ q = m) ∨ (X p = (m : Int) ∧ LayB ns N F X cs m (m : Int) la q))
theorem LayB_le {ns : List Nod} {N F X : Nat → Int} : ∀ (l : List Nat) (p : Nat) (h : Int) (la q : Nat), LayB ns N F X l p h la q → p ≤ la ∧ la < q ∧ h = (p : Int) := by
  intro l
  induction l with
  | nil => exact fun _ _ _ _ h => False.elim h
  | cons c cs ih =>
    intro p h la q a
    obtain ⟨a1, a2, m, k, a3, o⟩ := a
    have t := (LayA_le _ _ _ _ _ a3).1
    rcases o with ⟨_, b2, b3⟩ | ⟨b1, b2⟩
    · exact ⟨by omega, by omega, a1⟩
    · have u := ih _ _ _ _ b2
      exact ⟨by omega, u.2.1, a1⟩
theorem LayB_g {ns : List Nod} {N F X N' F' X' : Nat → Int} : ∀ (l : List Nat) (p : Nat) (h : Int) (la q : Nat), LayB ns N F X l p h la q → (∀ j, p ≤ j → j < q → N' j = N j ∧ F' j = F j ∧ (¬ j = la → X' j = X j)) → LayB ns N' F' X' l p h la q := by
  intro l
  induction l with
  | nil => exact fun _ _ _ _ h => False.elim h
  | cons c cs ih =>
    intro p h la q a e
    obtain ⟨a1, a2, m, k, a3, o⟩ := a
    have t := (LayA_le _ _ _ _ _ a3).1
    rcases o with ⟨b1, b2, b3⟩ | ⟨b1, b2⟩
    · have ep := e p (Nat.le_refl _) (by omega)
      refine ⟨a1, ep.1.trans a2, m, k, ?_, Or.inl ⟨b1, b2, b3⟩⟩
      rw [ep.2.1]
      exact LayA_g _ _ _ _ _ a3 (fun j j0 j1 => ⟨(e j (by omega) (by omega)).1, (e j (by omega) (by omega)).2.1, (e j (by omega) (by omega)).2.2 (by omega)⟩)
    · have u := LayB_le _ _ _ _ _ b2
      have ep := e p (Nat.le_refl _) (by omega)
      refine ⟨a1, ep.1.trans a2, m, k, ?_, Or.inr ⟨(ep.2.2 (by omega)).trans b1, ih _ _ _ _ b2 (fun j j0 j1 => e j (by omega) j1)⟩⟩
      rw [ep.2.1]
      exact LayA_g _ _ _ _ _ a3 (fun j j0 j1 => ⟨(e j (by omega) (by omega)).1, (e j (by omega) (by omega)).2.1, (e j (by omega) (by omega)).2.2 (by omega)⟩)
/-- the last of all -/
theorem LayB_e {ns : List Nod} {N F X : Nat → Int} : ∀ (l : List Nat) (p : Nat) (h : Int) (la q : Nat), LayB ns N F X l p h la q → X la = -1 → ∃ k, LayA ns N F X k l p h q := by
  intro l
  induction l with
  | nil => exact fun _ _ _ _ h => False.elim h
  | cons c cs ih =>
    intro p h la q a e
    obtain ⟨a1, a2, m, k, a3, o⟩ := a
    rcases o with ⟨b1, b2, b3⟩ | ⟨b1, b2⟩
    · refine ⟨k + 2, ?_⟩
      rw [b1, LayA_c]
      refine ⟨a1, a2, m, LayA_m (by omega) a3, ?_⟩
      rw [LayA_n, ← b2]
      exact ⟨e, b3⟩
    · obtain ⟨k2, t⟩ := ih _ _ _ _ b2 e
      refine ⟨k + k2 + 1, ?_⟩
      rw [LayA_c]
      refine ⟨a1, a2, m, LayA_m (by omega) a3, ?_⟩
      rw [b1]
      exact LayA_m (by omega) t
/-- the first -/
theorem LayB_1 {ns : List Nod} {N F X : Nat → Int} {c p q k : Nat} (h1 : N p = (c : Int)) (h2 : LayA ns N F X k (kdl ns c) (p + 1) (F p) q) : LayB ns N F X [c] p (p : Int) p q := ⟨rfl, h1, q, k, h2, Or.inl ⟨rfl, rfl, rfl⟩⟩
/-- one more -/
theorem LayB_s {ns : List Nod} {N F X : Nat → Int} {c q' k : Nat} : ∀ (l : List Nat) (p : Nat) (h : Int) (la q : Nat), LayB ns N F X l p h la q → X la = (q : Int) → N q = (c : Int) → LayA ns N F X k (kdl ns c) (q + 1) (F q) q' → LayB ns N F X (l ++ [c]) p h q q' := by
  intro l
  induction l with
  | nil => exact fun _ _ _ _ h => False.elim h
  | cons d cs ih =>
    intro p h la q a e e1 e2
    obtain ⟨a1, a2, m, k0, a3, o⟩ := a
    rcases o with ⟨b1, b2, b3⟩ | ⟨b1, b2⟩
    · refine ⟨a1, a2, m, k0, a3, Or.inr ⟨?_, ?_⟩⟩
      · rw [← b3, ← b2]
        exact e
      · rw [b1, ← b3]
        exact LayB_1 e1 e2
    · exact ⟨a1, a2, m, k0, a3, Or.inr ⟨b1, ih _ _ _ _ b2 e e1 e2⟩⟩
