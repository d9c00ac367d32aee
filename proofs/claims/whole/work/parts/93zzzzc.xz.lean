/-! sums and tests cost nothing -/
theorem cap_i {a b : Int} (b0 : 0 ≤ b) : cap (cap a + b) = cap (a + b) := by
  unfold cap
  by_cases c : a ≤ 500
  · rw [if_pos c]
  · rw [if_neg c, if_neg (by omega), if_neg (by omega)]
theorem gc_pre {ns ms : List Nod} (h : PRE ns ms) {i : Nat} (hi : i < ns.length) : gC (csl ms []) i = gC (csl ns []) i ∧ gD (csl ms []) i = gD (csl ns []) i := by
  obtain ⟨t, e⟩ := h
  obtain ⟨t', e'⟩ := csl_p t (csl ns [])
  rw [e, csl_a, e']
  refine gC_a ?_
  rw [csl_l]
  show i < 0 + ns.length
  omega
theorem cap_r (a : Int) : cap a ≤ 501 := by
  unfold cap
  by_cases c : a ≤ 500
  · rw [if_pos c]
    omega
  · rw [if_neg c]
    omega
theorem smC_0 {acc : List (Int × Int)} (h : ∀ i, 0 ≤ gC acc i) : ∀ (l : List Nat) (a : Int), 0 ≤ a → 0 ≤ smC acc a l := by
  intro l
  induction l with
  | nil => exact fun a a0 => a0
  | cons k l ih =>
    intro a a0
    rw [smC_c]
    have := h k
    exact ih _ (by omega)
/-- costs lie between 0 and 501 -/
theorem csl_b : ∀ (ns : List Nod) (acc : List (Int × Int)), (∀ i, 0 ≤ gC acc i ∧ gC acc i ≤ 501) → ∀ i, 0 ≤ gC (csl ns acc) i ∧ gC (csl ns acc) i ≤ 501 := by
  intro ns
  induction ns with
  | nil => exact fun acc h => h
  | cons d ns ih =>
    intro acc h
    refine ih (acc ++ [cs1 acc d]) (fun i => ?_)
    have c0 : 0 ≤ (cs1 acc d).1 ∧ (cs1 acc d).1 ≤ 501 := by
      unfold cs1
      by_cases q : d.1 = 23
      · rw [if_pos q]
        have := h d.2.2.1.toNat
        exact ⟨(cap_b (by omega)).1, cap_r _⟩
      · rw [if_neg q]
        have o : 0 ≤ own d.1 := by
          unfold own
          by_cases p : isS d.1 = true ∨ d.1 = 35
          · rw [if_pos p]
            decide
          · rw [if_neg p]
            decide
        exact ⟨(cap_b (smC_0 (fun i => (h i).1) _ _ o)).1, cap_r _⟩
    by_cases q : i < acc.length
    · rw [(gC_a q).1]
      exact h i
    · by_cases p : i = acc.length
      · have e : gC (acc ++ [cs1 acc d]) i = (cs1 acc d).1 := by
          unfold gC
          rw [List.getD_eq_getElem?_getD, p, List.getElem?_append_right (Nat.le_refl _), Nat.sub_self]
          rfl
        rw [e]
        exact c0
      · have e : gC (acc ++ [cs1 acc d]) i = 0 := by
          unfold gC
          rw [List.getD_eq_getElem?_getD, List.getElem?_eq_none (by rw [List.length_append, List.length_singleton]; omega)]
          rfl
        rw [e]
        decide
theorem gC_cap {ns : List Nod} (i : Nat) : 0 ≤ gC (csl ns []) i ∧ gC (csl ns []) i ≤ 501 := csl_b ns [] (fun i => by
  have e : gC [] i = 0 := rfl
  rw [e]
  decide) i
def ZC (ns : List Nod) (i : Nat) : Prop := gC (csl ns []) i = 0 ∧ gD (csl ns []) i = 0
theorem gc_new (ns : List Nod) (d : Nod) : gC (csl (ns ++ [d]) []) ns.length = (cs1 (csl ns []) d).1 ∧ gD (csl (ns ++ [d]) []) ns.length = (cs1 (csl ns []) d).2 := by
  have l : (csl ns []).length = ns.length := by
    rw [csl_l]
    show 0 + ns.length = ns.length
    omega
  rw [csl_s]
  unfold gC gD
  rw [List.getD_eq_getElem?_getD, List.getElem?_append_right (by omega), l, Nat.sub_self]
  exact ⟨rfl, rfl⟩
theorem sm_z {acc : List (Int × Int)} : ∀ (l : List Nat) (a : Int), (∀ c ∈ l, gC acc c = 0) → smC acc a l = a := by
  intro l
  induction l with
  | nil => exact fun _ _ => rfl
  | cons k l ih =>
    intro a h
    rw [smC_c, h k List.mem_cons_self, Int.add_zero]
    exact ih a (fun c hc => h c (List.mem_cons_of_mem _ hc))
theorem mx_z {acc : List (Int × Int)} : ∀ (l : List Nat) (a : Int), 0 ≤ a → (∀ c ∈ l, gD acc c = 0) → mxD acc a l = a := by
  intro l
  induction l with
  | nil => exact fun _ _ _ => rfl
  | cons k l ih =>
    intro a a0 h
    rw [mxD_c, h k List.mem_cons_self, if_pos a0]
    exact ih a a0 (fun c hc => h c (List.mem_cons_of_mem _ hc))
theorem zc_new {ns : List Nod} {d : Nod} (h0 : own d.1 = 0) (h1 : ¬ d.1 = 23) (h2 : ¬ d.1 = 35) (hk : ∀ c ∈ d.2.2.2, ZC ns c) : ZC (ns ++ [d]) ns.length := by
  have t := gc_new ns d
  have e : cs1 (csl ns []) d = (0, 0) := by
    unfold cs1
    rw [if_neg h1, h0, sm_z _ _ (fun c hc => (hk c hc).1), mx_z _ _ (Int.le_refl _) (fun c hc => (hk c hc).2), if_neg h2]
    rfl
  rw [e] at t
  exact t
theorem xnd_z {f : Int → Int} {n u p : Int} {ns : List Nod} {d : Nod} {r : XR} (e : r = xnd f n u p ns d) (g : r.1 = true) (h0 : own d.1 = 0) (h1 : ¬ d.1 = 23) (h2 : ¬ d.1 = 35) (hk : ∀ c ∈ d.2.2.2, ZC ns c) : ZC r.2.2.2.2 (r.2.2.2.2.length - 1) := by
  unfold xnd at e
  by_cases c : ns.length = 300
  · rw [if_pos c] at e
    exact (xer_t e g).elim
  · rw [if_neg c] at e
    rw [e]
    show ZC (ns ++ [d]) ((ns ++ [d]).length - 1)
    rw [List.length_append, List.length_singleton, Nat.add_sub_cancel]
    exact zc_new h0 h1 h2 hk
theorem own_o {c : Int} (h : c = 60 ∨ c = 61 ∨ c = 62 ∨ c = 43 ∨ c = 45 ∨ c = 42 ∨ c = 47) : own c = 0 ∧ ¬ c = 23 ∧ ¬ c = 35 := by
  rcases h with h | h | h | h | h | h | h <;> (rw [h]; decide)
def XZr (lk : List Int → Int × Int × Int × Int) (X : XQ) : Prop := ∀ (m op : Nat) (u p : Int) (ns : List Nod) (r : XR), m ≤ 6 → X m op u p ns r → r.1 = true → NWf lk ns → (4 ≤ m → 0 < ns.length ∧ ZC ns (ns.length - 1)) → ZC r.2.2.2.2 (r.2.2.2.2.length - 1)
theorem XP_z (f : Int → Int) (n : Int) (lk : List Int → Int × Int × Int × Int) : ∀ k, XZr lk (XP f n lk k) := by
  intro k
  induction k with
  | zero => exact fun _ _ _ _ _ _ _ h => False.elim h
  | succ k ih =>
    intro m op u p ns r m6 h g hN h4
    rw [XP_u] at h
    by_cases c : m = 3
    · rw [if_pos c] at h
      unfold xfa at h
      by_cases k31 : (wrd f n p).1 = 31
      · rw [if_pos k31] at h
        unfold xfn at h
        have h := xgo_t h g
        by_cases big : 999999999999 < (wrd f n p).2.2.2.2.1 * xmu (wrd f n (wrd f n p).2.2.1).1
        · rw [if_pos big] at h
          exact (xer_t h g).elim
        · rw [if_neg big] at h
          by_cases uu : 0 < xut (wrd f n (wrd f n p).2.2.1).1
          · rw [if_pos uu] at h
            exact xnd_z (xgo_t h g) g (show own 31 = 0 by decide) (show ¬ (31 : Int) = 23 by decide) (show ¬ (31 : Int) = 35 by decide) (fun c hc => (by cases hc))
          · rw [if_neg uu] at h
            exact xnd_z h g (show own 31 = 0 by decide) (show ¬ (31 : Int) = 23 by decide) (show ¬ (31 : Int) = 35 by decide) (fun c hc => (by cases hc))
      · rw [if_neg k31] at h
        by_cases k40 : (wrd f n p).1 = 40 ∨ (wrd f n p).1 = 45
        · rw [if_pos k40] at h
          unfold xfo at h
          by_cases o : 20 ≤ op
          · rw [if_pos o] at h
            exact (xer_t h g).elim
          · rw [if_neg o] at h
            have h := xgo_t h g
            by_cases k45 : (wrd f n p).1 = 45
            · rw [if_pos k45] at h
              obtain ⟨r1, a, b⟩ := h
              by_cases g1 : r1.1 = true
              · rw [if_pos g1] at b
                have t1 := ih 3 _ _ _ _ _ (by decide) a g1 hN (by omega)
                exact xnd_z b g (show own 34 = 0 by decide) (show ¬ (34 : Int) = 23 by decide) (show ¬ (34 : Int) = 35 by decide) (fun c hc => by rw [List.mem_singleton.mp hc]; exact t1)
              · rw [if_neg g1] at b
                rw [b] at g
                exact absurd g g1
            · rw [if_neg k45] at h
              obtain ⟨r1, a, b⟩ := h
              by_cases g1 : r1.1 = true
              · rw [if_pos g1] at b
                have t1 := ih 1 _ _ _ _ _ (by decide) a g1 hN (by omega)
                by_cases k41 : (wrd f n r1.2.2.2.1).1 = 41
                · rw [if_pos k41] at b
                  rw [xgo_t b g]
                  exact t1
                · rw [if_neg k41] at b
                  exact (xer_t b g).elim
              · rw [if_neg g1] at b
                rw [b] at g
                exact absurd g g1
        · rw [if_neg k40] at h
          by_cases k30 : (wrd f n p).1 = 30 ∧ 0 ≤ (lk (wrd f n p).2.2.2.1).1 ∧ ¬ (lk (wrd f n p).2.2.2.1).2.1 = 10
          · rw [if_pos k30] at h
            exact xnd_z (xgo_t h g) g (show own 30 = 0 by decide) (show ¬ (30 : Int) = 23 by decide) (show ¬ (30 : Int) = 35 by decide) (fun c hc => (by cases hc))
          · rw [if_neg k30] at h
            exact (xer_t h g).elim
    · rw [if_neg c] at h
      by_cases d : m < 3
      · rw [if_pos d] at h
        obtain ⟨r1, a, b⟩ := h
        by_cases g1 : r1.1 = true
        · rw [if_pos g1] at b
          have w1 := XP_wf f n lk k (m + 1) _ _ _ _ _ (by omega) a g1 hN (by omega)
          have t1 := ih (m + 1) _ _ _ _ _ (by omega) a g1 hN (by omega)
          have l1 := w1.2.2 (by omega)
          exact ih (m + 4) _ _ _ _ _ (by omega) b g w1.1 (fun _ => ⟨by omega, t1⟩)
        · rw [if_neg g1] at b
          rw [b] at g
          exact absurd g g1
      · rw [if_neg d] at h
        have n0 := h4 (by omega)
        unfold xlo at h
        by_cases lv : lvo (wrd f n p).1 = m - 4
        · rw [if_pos lv] at h
          have h := xgo_t h g
          obtain ⟨r2, a, b⟩ := h
          by_cases g2 : r2.1 = true
          · rw [if_pos g2] at b
            have w2 := XP_wf f n lk k (m - 4 + 1) _ _ _ _ _ (by omega) a g2 hN (by omega)
            have t2 := ih (m - 4 + 1) _ _ _ _ _ (by omega) a g2 hN (by omega)
            have l2 := w2.2.2 (by omega)
            by_cases x : xun (wrd f n p).1 u r2.2.2.1 < 0
            · rw [if_pos x] at b
              exact (xer_t b g).elim
            · rw [if_neg x] at b
              by_cases n3 : r2.2.2.2.2.length = 300
              · rw [if_pos n3] at b
                exact (xer_t b g).elim
              · rw [if_neg n3] at b
                have oo := own_o (lvo_o lv (by omega))
                have za : ZC r2.2.2.2.2 (ns.length - 1) := by
                  have t := gc_pre w2.2.1 (i := ns.length - 1) (by omega)
                  unfold ZC
                  rw [t.1, t.2]
                  exact n0.2
                have zn : ZC (r2.2.2.2.2 ++ [((wrd f n p).1, 0, 0, [ns.length - 1, r2.2.2.2.2.length - 1])]) r2.2.2.2.2.length := zc_new oo.1 oo.2.1 oo.2.2 (fun c hc => by
                  rcases List.mem_cons.mp hc with e | e
                  · rw [e]
                    exact za
                  · rw [List.mem_singleton.mp e]
                    exact t2)
                have zl : ZC (r2.2.2.2.2 ++ [((wrd f n p).1, 0, 0, [ns.length - 1, r2.2.2.2.2.length - 1])]) ((r2.2.2.2.2 ++ [((wrd f n p).1, 0, 0, [ns.length - 1, r2.2.2.2.2.length - 1])]).length - 1) := by
                  rw [List.length_append, List.length_singleton, Nat.add_sub_cancel]
                  exact zn
                have wn : NWf lk (r2.2.2.2.2 ++ [((wrd f n p).1, 0, 0, [ns.length - 1, r2.2.2.2.2.length - 1])]) := nwf_s w2.1 (fun c hc => by
                  rcases List.mem_cons.mp hc with e | e
                  · rw [e]
                    omega
                  · rw [List.mem_singleton.mp e]
                    omega) (fun z => absurd z oo.2.1)
                by_cases z : m - 4 = 0
                · rw [if_pos z] at b
                  rw [b]
                  exact zl
                · rw [if_neg z] at b
                  exact ih (m - 4 + 4) _ _ _ _ _ (by omega) b g wn (fun _ => ⟨by rw [List.length_append, List.length_singleton]; omega, zl⟩)
          · rw [if_neg g2] at b
            rw [b] at g
            exact absurd g g2
        · rw [if_neg lv] at h
          by_cases z : m - 4 = 0
          · rw [if_pos z] at h
            exact (xer_t h g).elim
          · rw [if_neg z] at h
            rw [h]
            exact n0.2
