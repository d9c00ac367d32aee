/-! the class's names and nodes while it reads a program -/
/-- a name: letters, kind, unit, block -/
abbrev Nm : Type := List Int × Int × Int × Int
def lki (l : List Int) : List Nm → Int → Int × Int × Int × Int
  | [], _ => (-1, 0, 0, 0)
  | x :: xs, i => if x.1 = l then (i, x.2.1, x.2.2.1, x.2.2.2) else lki l xs (i + 1)
theorem lki_u (l : List Int) (x : Nm) (xs : List Nm) (i : Int) : lki l (x :: xs) i = if x.1 = l then (i, x.2.1, x.2.2.1, x.2.2.2) else lki l xs (i + 1) := rfl
/-- what a name is: its number, kind, unit, block; -1 where there is none (a step that is not told to its end is none) -/
def lkn (nm : List Nm) (l : List Int) : Int × Int × Int × Int := if (lki l nm 0).2.1 = 10 ∧ (lki l nm 0).2.2.2 < 0 then (-1, 0, 0, 0) else lki l nm 0
/-- the class's names -/
def NmC (w : MW) (nm : List Nm) : Prop := (w.1 108 10).toInt = (nm.length : Int) ∧ nm.length ≤ 40 ∧ ∀ (i : Nat) (x : Nm), nm[i]? = some x → (w.2.1 116 i).toInt = cod 0 x.1 ∧ (w.1 117 i).toInt = x.2.1 ∧ (w.1 118 i).toInt = x.2.2.1 ∧ (w.1 119 i).toInt = x.2.2.2 ∧ (∀ c ∈ x.1, ldc c) ∧ (x.2.1 = 10 → 0 ≤ x.2.2.2) ∧ 0 ≤ x.2.2.1
theorem lki_b (l : List Int) : ∀ (xs : List Nm) (i : Int), ((lki l xs i).1 = -1 ∧ lki l xs i = (-1, 0, 0, 0) ∧ ∀ x ∈ xs, ¬ x.1 = l) ∨ ∃ (j : Nat) (x : Nm), xs[j]? = some x ∧ x.1 = l ∧ lki l xs i = (i + (j : Int), x.2.1, x.2.2.1, x.2.2.2) := by
  intro xs
  induction xs with
  | nil => exact fun i => Or.inl ⟨rfl, rfl, fun x h => (by cases h)⟩
  | cons x xs ih =>
    intro i
    rw [lki_u]
    by_cases c : x.1 = l
    · rw [if_pos c]
      refine Or.inr ⟨0, x, rfl, c, ?_⟩
      rw [show i + ((0 : Nat) : Int) = i by omega]
    · rw [if_neg c]
      rcases ih (i + 1) with ⟨a, b, d⟩ | ⟨j, y, a, b, d⟩
      · refine Or.inl ⟨a, b, fun y hy => ?_⟩
        rcases List.mem_cons.mp hy with e | e
        · rw [e]
          exact c
        · exact d y e
      · refine Or.inr ⟨j + 1, y, a, b, ?_⟩
        rw [d, show i + 1 + (j : Int) = i + ((j + 1 : Nat) : Int) by omega]
theorem fd_2 {w : MW} {nm : List Nm} {l : List Int} {c : Int64} {E : MW → Prop} {Q : Int32 → MW → Prop} (h : NmC w nm) (hc : c.toInt = cod 0 l) (hl : ∀ d ∈ l, ldc d) (ln : l.length ≤ 12) (hE : (∀ x ∈ nm, ¬ x.1 = l) → E w) (hQ : ∀ (j : Nat) (x : Nm), nm[j]? = some x → x.1 = l → (∀ (i : Nat) (y : Nm), i < j → nm[i]? = some y → ¬ y.1 = l) → Q (nI j) w) (m : Nat) : ∀ j : Nat, j ≤ nm.length → (∀ (i : Nat) (y : Nm), i < j → nm[i]? = some y → ¬ y.1 = l) → nm.length - j < m → q_Pr_finds108_2 c E Q m (nI j) w := by
  induction m with
  | zero => intros; omega
  | succ m ih =>
    intro j hj hn hm
    have n4 := h.2.1
    have n0 := h.1
    have ti : (nI j).toInt = (j : Int) := nI_toInt (by omega)
    have tn : (nI j).toInt.toNat = j := by omega
    rw [q_Pr_finds108_2.eq_2, tn]
    refine ⟨fun z => hE (fun x hx => ?_), fun z => ?_⟩
    · obtain ⟨i, hi⟩ := List.mem_iff_getElem?.mp hx
      have : i < nm.length := (List.getElem?_eq_some_iff.mp hi).1
      exact hn i x (by omega) hi
    · have jl : j < nm.length := by omega
      obtain ⟨x, hx⟩ : ∃ x, nm[j]? = some x := ⟨_, List.getElem?_eq_getElem jl⟩
      have t := h.2.2 j x hx
      refine ⟨by omega, fun q => ?_, fun q => hQ j x hx ?_ hn⟩
      · rw [nI_1]
        refine ih (j + 1) jl (fun i y hi hy => ?_) (by omega)
        by_cases e : i = j
        · rw [e] at hy
          rw [Option.some.inj (hy.symm.trans hx)]
          intro z2
          rcases nb_cmp (w.2.1 116 j) c with a | a | a
          · have := a.2
            rw [t.1, hc, z2] at this
            omega
          · exact q a.1
          · have := a.2
            rw [t.1, hc, z2] at this
            omega
        · exact hn i y (by omega) hy
      · have q' := Classical.not_not.mp q
        have e : cod 0 l = cod 0 x.1 := by
          rcases nb_cmp (w.2.1 116 j) c with a | a | a
          · have := a.1
            omega
          · have := a.2
            rw [t.1, hc] at this
            exact this.symm
          · have := a.1
            omega
        exact (cod_i 12 l x.1 ln hl t.2.2.2.2.1 e).symm
/-- the class finds a name -/
theorem fd_x {w : MW} {nm : List Nm} {l : List Int} {c : Int64} {Q : Int32 → MW → Prop} (h : NmC w nm) (hc : c.toInt = cod 0 l) (hl : ∀ d ∈ l, ldc d) (ln : l.length ≤ 12) (h0 : (lkn nm l).1 = -1 → Q (-1) w) (h1 : ∀ (j : Nat) (x : Nm), nm[j]? = some x → lkn nm l = ((j : Int), x.2.1, x.2.2.1, x.2.2.2) → Q (nI j) w) : p_Pr_finds108 w c Q := by
  have n4 := h.2.1
  refine Eq.mpr (p_Pr_finds108.eq_1 _ _ _) (fd_2 (m := FU) h hc hl ln (fun no => h0 ?_) (fun j x hx e first => h1 j x hx ?_) 0 (Nat.zero_le _) (fun i y hi => absurd hi (Nat.not_lt_zero _)) (Nat.lt_of_le_of_lt (show _ ≤ 40 by omega) (fu_lt (by decide))))
  · rcases lki_b l nm 0 with ⟨_, b, _⟩ | ⟨j, x, a, b, _⟩
    · unfold lkn
      rw [b]
      rfl
    · exact absurd b (no x (List.mem_of_getElem? a))
  · rcases lki_b l nm 0 with ⟨_, _, d⟩ | ⟨i, y, a, b, d⟩
    · exact absurd e (d x (List.mem_of_getElem? hx))
    · have t := h.2.2 i y a
      have el : lkn nm l = lki l nm 0 := by
        unfold lkn
        rw [d]
        refine if_neg (fun z => ?_)
        have z1 : y.2.1 = 10 := z.1
        have z2 : y.2.2.2 < 0 := z.2
        have := t.2.2.2.2.2.1 z1
        omega
      have ij : i = j := by
        by_cases c1 : i < j
        · exact absurd b (first i y c1 a)
        · by_cases c2 : j < i
          · -- the first of them is found
            exfalso
            have g : ∀ (xs : List Nm) (k : Int) (i j : Nat) (x : Nm), xs[j]? = some x → x.1 = l → j < i → (lki l xs k).1 < k + (i : Int) := by
              intro xs
              induction xs with
              | nil => intro k i j x hx; cases hx
              | cons z zs ih =>
                intro k i j x hx e c
                rw [lki_u]
                by_cases q : z.1 = l
                · rw [if_pos q]
                  show k < k + (i : Int)
                  omega
                · rw [if_neg q]
                  cases j with
                  | zero =>
                    have ez : z = x := Option.some.inj hx
                    rw [ez] at q
                    exact absurd e q
                  | succ j =>
                    have := ih (k + 1) (i - 1) j x hx e (by omega)
                    omega
            have := g nm 0 i j x hx e c2
            rw [d] at this
            have t2 : 0 + (i : Int) < 0 + (i : Int) := this
            omega
          · omega
      rw [el, d, ij]
      rw [ij] at a
      rw [Option.some.inj (a.symm.trans hx), show 0 + (j : Int) = (j : Int) by omega]
/-- the nodes, as far as sums and tests go -/
def PNc (w : MW) (ns : List Nod) : Prop := (w.1 108 1).toInt = (ns.length : Int) ∧ ∀ (i : Nat) (d : Nod), ns[i]? = some d → (w.1 109 i).toInt = d.1 ∧ (w.1 110 i).toInt = d.2.1 ∧ (d.1 = 31 → (w.2.1 115 i).toInt = d.2.2.1)
def ndc (k : Nat) : Prop := k = 88 ∨ k = 89 ∨ k = 109 ∨ k = 110 ∨ k = 111 ∨ k = 112 ∨ k = 113 ∨ k = 114 ∨ k = 115
/-- the nodes below N stand -/
def KNd (N : Nat) (w w' : MW) : Prop := ∀ k j : Nat, ndc k → j < N → w'.1 k j = w.1 k j ∧ w'.2.1 k j = w.2.1 k j
theorem KNd.tr {N : Nat} {w w' w2 : MW} (h : KNd N w w') (h2 : KNd N w' w2) : KNd N w w2 := fun k j hk hj => ⟨(h2 k j hk hj).1.trans (h k j hk hj).1, (h2 k j hk hj).2.trans (h k j hk hj).2⟩
theorem KNd.mono {N M : Nat} {w w' : MW} (h : KNd N w w') (hm : M ≤ N) : KNd M w w' := fun k j hk hj => h k j hk (by omega)
theorem KNd.fr {l : Pl} {N : Nat} {w w' : MW} (hF : FR l w w') (ho : off l [(88, none), (89, none), (109, none), (110, none), (111, none), (112, none), (113, none), (114, none), (115, none)] = true) : KNd N w w' := fun k j hk _ => by
  rcases hk with rfl | rfl | rfl | rfl | rfl | rfl | rfl | rfl | rfl <;> exact ⟨(hF _ j (off_hit ho rfl)).1, (hF _ j (off_hit ho rfl)).2.1⟩
theorem pnc_k {w w' : MW} {ns : List Nod} (h : PNc w ns) (K : KNd ns.length w w') (e : w'.1 108 1 = w.1 108 1) : PNc w' ns := by
  refine ⟨by rw [e]; exact h.1, fun i d hd => ?_⟩
  have il : i < ns.length := (List.getElem?_eq_some_iff.mp hd).1
  rw [(K 109 i (by unfold ndc; omega) il).1, (K 110 i (by unfold ndc; omega) il).1, (K 115 i (by unfold ndc; omega) il).2]
  exact h.2 i d hd
def lmkn : Pl := [(87, some 9), (88, none), (89, none), (108, some 1), (109, none), (110, none), (111, none), (112, none), (113, none), (114, none)]
/-- the class makes a node -/
theorem mk_x {w : MW} {ns : List Nod} {a b : Int32} {Q : Int32 → MW → Prop} (hI : BND w) (hr : w.2.2 87 1 = some 108) (hN : (w.1 108 1).toInt = (ns.length : Int)) (n3 : ns.length ≤ 300) (hQ : ∀ w', BND w' → FR lmkn w w' → KNd ns.length w w' → (w'.1 109 ns.length) = a → (w'.1 110 ns.length) = b → (w'.1 111 ns.length).toInt = (ns.length : Int) → (w'.1 112 ns.length).toInt = (ns.length : Int) → (w'.1 113 ns.length).toInt = -1 → (w'.1 114 ns.length).toInt = -1 → (w'.1 88 ns.length).toInt = 1 → (w'.1 89 ns.length).toInt = 0 → (w'.1 108 1).toInt = (ns.length : Int) + 1 → (w'.1 87 9).toInt = (if ns.length = 300 ∧ ¬ 0 ≤ (w.1 87 9).toInt then (w.1 87 4).toInt else (w.1 87 9).toInt) → Q (nI ns.length) w') : p_Rd_makeNode w a b Q := by
  have tl : (nI ns.length).toInt = (ns.length : Int) := nI_toInt (by omega)
  have tn : (nI ns.length).toInt.toNat = ns.length := by omega
  have e1 : w.1 108 1 = nI ns.length := by
    have t := nI_tn (a := w.1 108 1) (by omega)
    rw [hN] at t
    exact t.symm
  have bi : 0 ≤ (nI ns.length).toInt ∧ (nI ns.length).toInt < 301 := by omega
  have em : (300 : Int32).toInt = 300 := by decide
  have sum := ti_add2 tl i_1 (by omega) (by omega)
  have main : ∀ r : Int32, r = nI ns.length → ((w.2.2 87 1 = some 108) ∧ ((0 ≤ r.toInt ∧ r.toInt < 301) ∧ ((w.2.2 87 1 = some 108) ∧ ((0 ≤ r.toInt ∧ r.toInt < 301) ∧ ((w.2.2 87 1 = some 108) ∧ ((0 ≤ r.toInt ∧ r.toInt < 301) ∧ ((w.2.2 87 1 = some 108) ∧ ((0 ≤ r.toInt ∧ r.toInt < 301) ∧ ((w.2.2 87 1 = some 108) ∧ ((0 ≤ r.toInt ∧ r.toInt < 301) ∧ ((w.2.2 87 1 = some 108) ∧ ((0 ≤ r.toInt ∧ r.toInt < 301) ∧ ((0 ≤ r.toInt ∧ r.toInt < 301) ∧ ((0 ≤ r.toInt ∧ r.toInt < 301) ∧ ((w.2.2 87 1 = some 108) ∧ ((¬ r.toInt = 300 → (Q r (sI (sI (sI (sI (sI (sI (sI (sI (sI w 109 r.toInt.toNat a) 110 r.toInt.toNat b) 111 r.toInt.toNat r) 112 r.toInt.toNat r) 113 r.toInt.toNat (-1)) 114 r.toInt.toNat (-1)) 88 r.toInt.toNat 1) 89 r.toInt.toNat 0) 108 1 (r + (1 : Int32))))) ∧ (¬ (¬ r.toInt = 300) → (p_Rd_fail (sI (sI (sI (sI (sI (sI (sI (sI (sI w 109 r.toInt.toNat a) 110 r.toInt.toNat b) 111 r.toInt.toNat r) 112 r.toInt.toNat r) 113 r.toInt.toNat (-1)) 114 r.toInt.toNat (-1)) 88 r.toInt.toNat 1) 89 r.toInt.toNat 0) 108 1 (r + (1 : Int32)))  (fun w19 => (Q r w19)))))))))))))))))))) := fun r er => by
    rw [er, tn]
    have B1 : BND (sI (sI (sI (sI (sI (sI (sI (sI (sI w 109 ns.length a) 110 ns.length b) 111 ns.length (nI ns.length)) 112 ns.length (nI ns.length)) 113 ns.length (-1)) 114 ns.length (-1)) 88 ns.length 1) 89 ns.length 0) 108 1 ((nI ns.length) + (1 : Int32))) := by
      exact wbd_108_1 (wbd_89 (wbd_88 (wbd_114 (wbd_113 (wbd_112 (wbd_111 (wbd_110 (wbd_109 hI _) _) _ (by omega) (by omega)) _ (by omega) (by omega)) _ (by decide) (by decide)) _ (by decide) (by decide)) _) _) (by omega) (by omega)
    have F1 : FR lmkn w (sI (sI (sI (sI (sI (sI (sI (sI (sI w 109 ns.length a) 110 ns.length b) 111 ns.length (nI ns.length)) 112 ns.length (nI ns.length)) 113 ns.length (-1)) 114 ns.length (-1)) 88 ns.length 1) 89 ns.length 0) 108 1 ((nI ns.length) + (1 : Int32))) := FR.I (FR.I (FR.I (FR.I (FR.I (FR.I (FR.I (FR.I (FR.I (FR.refl _ w) rfl) rfl) rfl) rfl) rfl) rfl) rfl) rfl) rfl
    have K1 : KNd ns.length w (sI (sI (sI (sI (sI (sI (sI (sI (sI w 109 ns.length a) 110 ns.length b) 111 ns.length (nI ns.length)) 112 ns.length (nI ns.length)) 113 ns.length (-1)) 114 ns.length (-1)) 88 ns.length 1) 89 ns.length 0) 108 1 ((nI ns.length) + (1 : Int32))) := fun k j hk hj => by
      have ne : ¬ k = 108 := by unfold ndc at hk; omega
      have nj : ∀ k', ¬ (k = k' ∧ j = ns.length) := fun k' z => by omega
      refine ⟨?_, rfl⟩
      rw [sI_at, if_neg (fun z => ne z.1), sI_at, if_neg (nj _), sI_at, if_neg (nj _), sI_at, if_neg (nj _), sI_at, if_neg (nj _), sI_at, if_neg (nj _), sI_at, if_neg (nj _), sI_at, if_neg (nj _), sI_at, if_neg (nj _)]
    have g : ∀ (k : Nat) (v : Int32) (u : MW), True → True := fun _ _ _ _ => trivial
    have v9 : (sI (sI (sI (sI (sI (sI (sI (sI (sI w 109 ns.length a) 110 ns.length b) 111 ns.length (nI ns.length)) 112 ns.length (nI ns.length)) 113 ns.length (-1)) 114 ns.length (-1)) 88 ns.length 1) 89 ns.length 0) 108 1 ((nI ns.length) + (1 : Int32))).1 109 ns.length = a := by
      rw [sI_oth _ _ _ _ _ _ (by decide), sI_oth _ _ _ _ _ _ (by decide), sI_oth _ _ _ _ _ _ (by decide), sI_oth _ _ _ _ _ _ (by decide), sI_oth _ _ _ _ _ _ (by decide), sI_oth _ _ _ _ _ _ (by decide), sI_oth _ _ _ _ _ _ (by decide), sI_oth _ _ _ _ _ _ (by decide), sI_same]
    have v10 : (sI (sI (sI (sI (sI (sI (sI (sI (sI w 109 ns.length a) 110 ns.length b) 111 ns.length (nI ns.length)) 112 ns.length (nI ns.length)) 113 ns.length (-1)) 114 ns.length (-1)) 88 ns.length 1) 89 ns.length 0) 108 1 ((nI ns.length) + (1 : Int32))).1 110 ns.length = b := by
      rw [sI_oth _ _ _ _ _ _ (by decide), sI_oth _ _ _ _ _ _ (by decide), sI_oth _ _ _ _ _ _ (by decide), sI_oth _ _ _ _ _ _ (by decide), sI_oth _ _ _ _ _ _ (by decide), sI_oth _ _ _ _ _ _ (by decide), sI_oth _ _ _ _ _ _ (by decide), sI_same]
    have v11 : ((sI (sI (sI (sI (sI (sI (sI (sI (sI w 109 ns.length a) 110 ns.length b) 111 ns.length (nI ns.length)) 112 ns.length (nI ns.length)) 113 ns.length (-1)) 114 ns.length (-1)) 88 ns.length 1) 89 ns.length 0) 108 1 ((nI ns.length) + (1 : Int32))).1 111 ns.length).toInt = (ns.length : Int) := by
      rw [sI_oth _ _ _ _ _ _ (by decide), sI_oth _ _ _ _ _ _ (by decide), sI_oth _ _ _ _ _ _ (by decide), sI_oth _ _ _ _ _ _ (by decide), sI_oth _ _ _ _ _ _ (by decide), sI_oth _ _ _ _ _ _ (by decide), sI_same]
      exact tl
    have v12 : ((sI (sI (sI (sI (sI (sI (sI (sI (sI w 109 ns.length a) 110 ns.length b) 111 ns.length (nI ns.length)) 112 ns.length (nI ns.length)) 113 ns.length (-1)) 114 ns.length (-1)) 88 ns.length 1) 89 ns.length 0) 108 1 ((nI ns.length) + (1 : Int32))).1 112 ns.length).toInt = (ns.length : Int) := by
      rw [sI_oth _ _ _ _ _ _ (by decide), sI_oth _ _ _ _ _ _ (by decide), sI_oth _ _ _ _ _ _ (by decide), sI_oth _ _ _ _ _ _ (by decide), sI_oth _ _ _ _ _ _ (by decide), sI_same]
      exact tl
    have v13 : ((sI (sI (sI (sI (sI (sI (sI (sI (sI w 109 ns.length a) 110 ns.length b) 111 ns.length (nI ns.length)) 112 ns.length (nI ns.length)) 113 ns.length (-1)) 114 ns.length (-1)) 88 ns.length 1) 89 ns.length 0) 108 1 ((nI ns.length) + (1 : Int32))).1 113 ns.length).toInt = -1 := by
      rw [sI_oth _ _ _ _ _ _ (by decide), sI_oth _ _ _ _ _ _ (by decide), sI_oth _ _ _ _ _ _ (by decide), sI_oth _ _ _ _ _ _ (by decide), sI_same]
      decide
    have v14 : ((sI (sI (sI (sI (sI (sI (sI (sI (sI w 109 ns.length a) 110 ns.length b) 111 ns.length (nI ns.length)) 112 ns.length (nI ns.length)) 113 ns.length (-1)) 114 ns.length (-1)) 88 ns.length 1) 89 ns.length 0) 108 1 ((nI ns.length) + (1 : Int32))).1 114 ns.length).toInt = -1 := by
      rw [sI_oth _ _ _ _ _ _ (by decide), sI_oth _ _ _ _ _ _ (by decide), sI_oth _ _ _ _ _ _ (by decide), sI_same]
      decide
    have v88 : ((sI (sI (sI (sI (sI (sI (sI (sI (sI w 109 ns.length a) 110 ns.length b) 111 ns.length (nI ns.length)) 112 ns.length (nI ns.length)) 113 ns.length (-1)) 114 ns.length (-1)) 88 ns.length 1) 89 ns.length 0) 108 1 ((nI ns.length) + (1 : Int32))).1 88 ns.length).toInt = 1 := by
      rw [sI_oth _ _ _ _ _ _ (by decide), sI_oth _ _ _ _ _ _ (by decide), sI_same]
      exact i_1
    have v89 : ((sI (sI (sI (sI (sI (sI (sI (sI (sI w 109 ns.length a) 110 ns.length b) 111 ns.length (nI ns.length)) 112 ns.length (nI ns.length)) 113 ns.length (-1)) 114 ns.length (-1)) 88 ns.length 1) 89 ns.length 0) 108 1 ((nI ns.length) + (1 : Int32))).1 89 ns.length).toInt = 0 := by
      rw [sI_oth _ _ _ _ _ _ (by decide), sI_same]
      exact i_0
    have e9 : (sI (sI (sI (sI (sI (sI (sI (sI (sI w 109 ns.length a) 110 ns.length b) 111 ns.length (nI ns.length)) 112 ns.length (nI ns.length)) 113 ns.length (-1)) 114 ns.length (-1)) 88 ns.length 1) 89 ns.length 0) 108 1 ((nI ns.length) + (1 : Int32))).1 87 9 = w.1 87 9 := rfl
    have v108 : ((sI (sI (sI (sI (sI (sI (sI (sI (sI w 109 ns.length a) 110 ns.length b) 111 ns.length (nI ns.length)) 112 ns.length (nI ns.length)) 113 ns.length (-1)) 114 ns.length (-1)) 88 ns.length 1) 89 ns.length 0) 108 1 ((nI ns.length) + (1 : Int32))).1 108 1).toInt = (ns.length : Int) + 1 := by
      rw [sI_same]
      exact sum
    clear g
    generalize (sI (sI (sI (sI (sI (sI (sI (sI (sI w 109 ns.length a) 110 ns.length b) 111 ns.length (nI ns.length)) 112 ns.length (nI ns.length)) 113 ns.length (-1)) 114 ns.length (-1)) 88 ns.length 1) 89 ns.length 0) 108 1 ((nI ns.length) + (1 : Int32))) = w1 at *
    have e4 : w1.1 87 4 = w.1 87 4 := (F1 87 4 rfl).1
    refine ⟨hr, bi, hr, bi, hr, bi, hr, bi, hr, bi, hr, bi, bi, bi, hr, fun z => hQ w1 B1 F1 K1 v9 v10 v11 v12 v13 v14 v88 v89 v108 ?_, fun z => Eq.mpr (p_Rd_fail.eq_1 _ _) ⟨fun c => hQ w1 B1 F1 K1 v9 v10 v11 v12 v13 v14 v88 v89 v108 ?_, fun c => ?_⟩⟩
    · rw [if_neg (fun y => by have := y.1; omega), e9]
    · rw [e9] at c ⊢
      rw [if_neg (fun y => y.2 c)]
    · have F2 : FR [(87, some 9)] w1 (sI w1 87 9 (w1.1 87 4)) := FR.I (FR.refl _ w1) rfl
      refine hQ _ (wbd_87_9 B1) (FR.tr F1 F2 rfl) (K1.tr (KNd.fr F2 rfl)) ?_ ?_ ?_ ?_ ?_ ?_ ?_ ?_ ?_ ?_
      · rw [(F2 109 _ rfl).1]; exact v9
      · rw [(F2 110 _ rfl).1]; exact v10
      · rw [(F2 111 _ rfl).1]; exact v11
      · rw [(F2 112 _ rfl).1]; exact v12
      · rw [(F2 113 _ rfl).1]; exact v13
      · rw [(F2 114 _ rfl).1]; exact v14
      · rw [(F2 88 _ rfl).1]; exact v88
      · rw [(F2 89 _ rfl).1]; exact v89
      · rw [(F2 108 1 rfl).1]; exact v108
      · rw [sI_same, e4]
        rw [e9] at c
        rw [if_pos ⟨by have := Classical.not_not.mp z; omega, c⟩]
  refine Eq.mpr (p_Rd_makeNode.eq_1 _ _ _ _) ⟨hr, Eq.mpr (p_Ma_min.eq_1 _ _ _ _) ⟨fun z => ?_, fun z => ?_⟩⟩
  · rw [em, hN] at z
    omega
  · exact main _ e1
