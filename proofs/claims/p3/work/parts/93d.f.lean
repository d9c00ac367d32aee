/-! sums and tests cost nothing -/
theorem cap_i {a b : Int} (b0 : 0 ≤ b) : cap (cap a + b) = cap (a + b) := by
  unfold cap
  by_cases c : a ≤ 500
  · rw [if_pos c]
  · rw [if_neg c, if_neg (by omega), if_neg (by omega)]
theorem gc_pre {ns ms : List Nod} (h : PRE ns ms) {i : Nat} (hi : i < ns.length) : gC (csl ms []) i = gC (csl ns []) i ∧ gD (csl ms []) i = gD (csl ns []) i := by
  obtain ⟨t, e⟩ := h
  obtain ⟨t', e'⟩ := csl_p t (csl ns [])
  rw [e, csl_a, e']
  refine gC_a ?_
  rw [csl_l]
  show i < 0 + ns.length
  omega
theorem cap_r (a : Int) : cap a ≤ 501 := by
  unfold cap
  by_cases c : a ≤ 500
  · rw [if_pos c]
    omega
  · rw [if_neg c]
    omega
theorem smC_0 {acc : List (Int × Int)} (h : ∀ i, 0 ≤ gC acc i) : ∀ (l : List Nat) (a : Int), 0 ≤ a → 0 ≤ smC acc a l := by
  intro l
  induction l with
  | nil => exact fun a a0 => a0
  | cons k l ih =>
    intro a a0
    rw [smC_c]
    have := h k
    exact ih _ (by omega)
/-- costs lie between 0 and 501 -/
theorem csl_b : ∀ (ns : List Nod) (acc : List (Int × Int)), (∀ i, 0 ≤ gC acc i ∧ gC acc i ≤ 501) → ∀ i, 0 ≤ gC (csl ns acc) i ∧ gC (csl ns acc) i ≤ 501 := by
  intro ns
  induction ns with
  | nil => exact fun acc h => h
  | cons d ns ih =>
    intro acc h
    refine ih (acc ++ [cs1 acc d]) (fun i => ?_)
    have c0 : 0 ≤ (cs1 acc d).1 ∧ (cs1 acc d).1 ≤ 501 := by
      unfold cs1
      by_cases q : d.1 = 23
      · rw [if_pos q]
        have := h d.2.2.1.toNat
        exact ⟨(cap_b (by omega)).1, cap_r _⟩
      · rw [if_neg q]
        have o : 0 ≤ own d.1 := by
          unfold own
          by_cases p : isS d.1 = true ∨ d.1 = 35
          · rw [if_pos p]
            decide
          · rw [if_neg p]
            decide
        exact ⟨(cap_b (smC_0 (fun i => (h i).1) _ _ o)).1, cap_r _⟩
    by_cases q : i < acc.length
    · rw [(gC_a q).1]
      exact h i
    · by_cases p : i = acc.length
      · have e : gC (acc ++ [cs1 acc d]) i = (cs1 acc d).1 := by
          unfold gC
          rw [List.getD_eq_getElem?_getD, p, List.getElem?_append_right (Nat.le_refl _), Nat.sub_self]
          rfl
        rw [e]
        exact c0
      · have e : gC (acc ++ [cs1 acc d]) i = 0 := by
          unfold gC
          rw [List.getD_eq_getElem?_getD, List.getElem?_eq_none (by rw [List.length_append, List.length_singleton]; omega)]
          rfl
        rw [e]
        decide
theorem gC_cap {ns : List Nod} (i : Nat) : 0 ≤ gC (csl ns []) i ∧ gC (csl ns []) i ≤ 501 := csl_b ns [] (fun i => by
  have e : gC [] i = 0 := rfl
  rw [e]
  decide) i
def ZC (ns : List Nod) (i : Nat) : Prop := gC (csl ns []) i = 0 ∧ gD (csl ns []) i = 0
theorem gc_new (ns : List Nod) (d : Nod) : gC (csl (ns ++ [d]) []) ns.length = (cs1 (csl ns []) d).1 ∧ gD (csl (ns ++ [d]) []) ns.length = (cs1 (csl ns []) d).2 := by
  have l : (csl ns []).length = ns.length := by
    rw [csl_l]
    show 0 + ns.length = ns.length
    omega
  rw [csl_s]
  unfold gC gD
  rw [List.getD_eq_getElem?_getD, List.getElem?_append_right (by omega), l, Nat.sub_self]
  exact ⟨rfl, rfl⟩
theorem sm_z {acc : List (Int × Int)} : ∀ (l : List Nat) (a : Int), (∀ c ∈ l, gC acc c = 0) → smC acc a l = a := by
  intro l
  induction l with
  | nil => exact fun _ _ => rfl
  | cons k l ih =>
    intro a h
    rw [smC_c, h k List.mem_cons_self, Int.add_zero]
    exact ih a (fun c hc => h c (List.mem_cons_of_mem _ hc))
theorem mx_z {acc : List (Int × Int)} : ∀ (l : List Nat) (a : Int), 0 ≤ a → (∀ c ∈ l, gD acc c = 0) → mxD acc a l = a := by
  intro l
  induction l with
  | nil => exact fun _ _ _ => rfl
  | cons k l ih =>
    intro a a0 h
    rw [mxD_c, h k List.mem_cons_self, if_pos a0]
    exact ih a a0 (fun c hc => h c (List.mem_cons_of_mem _ hc))
theorem zc_new {ns : List Nod} {d : Nod} (h0 : own d.1 = 0) (h1 : ¬ d.1 = 23) (h2 : ¬ d.1 = 35) (hk : ∀ c ∈ d.2.2.2, ZC ns c) : ZC (ns ++ [d]) ns.length := by
  have t := gc_new ns d
  have e : cs1 (csl ns []) d = (0, 0) := by
    unfold cs1
    rw [if_neg h1, h0, sm_z _ _ (fun c hc => (hk c hc).1), mx_z _ _ (Int.le_refl _) (fun c hc => (hk c hc).2), if_neg h2]
    rfl
  rw [e] at t
  exact t
theorem xnd_z {f : Int → Int} {n u p : Int} {ns : List Nod} {d : Nod} {r : XR} (e : r = xnd f n u p ns d) (g : r.1 = true) (h0 : own d.1 = 0) (h1 : ¬ d.1 = 23) (h2 : ¬ d.1 = 35) (hk : ∀ c ∈ d.2.2.2, ZC ns c) : ZC r.2.2.2.2 (r.2.2.2.2.length - 1) := by
  unfold xnd at e
  by_cases c : ns.length = 300
  · rw [if_pos c] at e
    exact (xer_t e g).elim
  · rw [if_neg c] at e
    rw [e]
    show ZC (ns ++ [d]) ((ns ++ [d]).length - 1)
    rw [List.length_append, List.length_singleton, Nat.add_sub_cancel]
    exact zc_new h0 h1 h2 hk
theorem own_o {c : Int} (h : c = 60 ∨ c = 61 ∨ c = 62 ∨ c = 43 ∨ c = 45 ∨ c = 42 ∨ c = 47) : own c = 0 ∧ ¬ c = 23 ∧ ¬ c = 35 := by
  rcases h with h | h | h | h | h | h | h <;> (rw [h]; decide)
def XZr (lk : List Int → Int × Int × Int × Int) (X : XQ) : Prop := ∀ (m op : Nat) (u p : Int) (ns : List Nod) (r : XR), m ≤ 6 → X m op u p ns r → r.1 = true → NWf lk ns → (4 ≤ m → 0 < ns.length ∧ ZC ns (ns.length - 1)) → ZC r.2.2.2.2 (r.2.2.2.2.length - 1)
theorem XP_z (f : Int → Int) (n : Int) (lk : List Int → Int × Int × Int × Int) : ∀ k, XZr lk (XP f n lk k) := by
  intro k
  induction k with
  | zero => exact fun _ _ _ _ _ _ _ h => False.elim h
  | succ k ih =>
    intro m op u p ns r m6 h g hN h4
    rw [XP_u] at h
    by_cases c : m = 3
    · rw [if_pos c] at h
      unfold xfa at h
      by_cases k31 : (wrd f n p).1 = 31
      · rw [if_pos k31] at h
        unfold xfn at h
        have h := xgo_t h g
        by_cases big : 999999999999 < (wrd f n p).2.2.2.2.1 * xmu (wrd f n (wrd f n p).2.2.1).1
        · rw [if_pos big] at h
          exact (xer_t h g).elim
        · rw [if_neg big] at h
          by_cases uu : 0 < xut (wrd f n (wrd f n p).2.2.1).1
          · rw [if_pos uu] at h
            exact xnd_z (xgo_t h g) g (show own 31 = 0 by decide) (show ¬ (31 : Int) = 23 by decide) (show ¬ (31 : Int) = 35 by decide) (fun c hc => (by cases hc))
          · rw [if_neg uu] at h
            exact xnd_z h g (show own 31 = 0 by decide) (show ¬ (31 : Int) = 23 by decide) (show ¬ (31 : Int) = 35 by decide) (fun c hc => (by cases hc))
      · rw [if_neg k31] at h
        by_cases k40 : (wrd f n p).1 = 40 ∨ (wrd f n p).1 = 45
        · rw [if_pos k40] at h
          unfold xfo at h
          by_cases o : 20 ≤ op
          · rw [if_pos o] at h
            exact (xer_t h g).elim
          · rw [if_neg o] at h
            have h := xgo_t h g
            by_cases k45 : (wrd f n p).1 = 45
            · rw [if_pos k45] at h
              obtain ⟨r1, a, b⟩ := h
              by_cases g1 : r1.1 = true
              · rw [if_pos g1] at b
                have t1 := ih 3 _ _ _ _ _ (by decide) a g1 hN (by omega)
                exact xnd_z b g (show own 34 = 0 by decide) (show ¬ (34 : Int) = 23 by decide) (show ¬ (34 : Int) = 35 by decide) (fun c hc => by rw [List.mem_singleton.mp hc]; exact t1)
              · rw [if_neg g1] at b
                rw [b] at g
                exact absurd g g1
            · rw [if_neg k45] at h
              obtain ⟨r1, a, b⟩ := h
              by_cases g1 : r1.1 = true
              · rw [if_pos g1] at b
                have t1 := ih 1 _ _ _ _ _ (by decide) a g1 hN (by omega)
                by_cases k41 : (wrd f n r1.2.2.2.1).1 = 41
                · rw [if_pos k41] at b
                  rw [xgo_t b g]
                  exact t1
                · rw [if_neg k41] at b
                  exact (xer_t b g).elim
              · rw [if_neg g1] at b
                rw [b] at g
                exact absurd g g1
        · rw [if_neg k40] at h
          by_cases k30 : (wrd f n p).1 = 30 ∧ 0 ≤ (lk (wrd f n p).2.2.2.1).1 ∧ ¬ (lk (wrd f n p).2.2.2.1).2.1 = 10
          · rw [if_pos k30] at h
            exact xnd_z (xgo_t h g) g (show own 30 = 0 by decide) (show ¬ (30 : Int) = 23 by decide) (show ¬ (30 : Int) = 35 by decide) (fun c hc => (by cases hc))
          · rw [if_neg k30] at h
            exact (xer_t h g).elim
    · rw [if_neg c] at h
      by_cases d : m < 3
      · rw [if_pos d] at h
        obtain ⟨r1, a, b⟩ := h
        by_cases g1 : r1.1 = true
        · rw [if_pos g1] at b
          have w1 := XP_wf f n lk k (m + 1) _ _ _ _ _ (by omega) a g1 hN (by omega)
          have t1 := ih (m + 1) _ _ _ _ _ (by omega) a g1 hN (by omega)
          have l1 := w1.2.2 (by omega)
          exact ih (m + 4) _ _ _ _ _ (by omega) b g w1.1 (fun _ => ⟨by omega, t1⟩)
        · rw [if_neg g1] at b
          rw [b] at g
          exact absurd g g1
      · rw [if_neg d] at h
        have n0 := h4 (by omega)
        unfold xlo at h
        by_cases lv : lvo (wrd f n p).1 = m - 4
        · rw [if_pos lv] at h
          have h := xgo_t h g
          obtain ⟨r2, a, b⟩ := h
          by_cases g2 : r2.1 = true
          · rw [if_pos g2] at b
            have w2 := XP_wf f n lk k (m - 4 + 1) _ _ _ _ _ (by omega) a g2 hN (by omega)
            have t2 := ih (m - 4 + 1) _ _ _ _ _ (by omega) a g2 hN (by omega)
            have l2 := w2.2.2 (by omega)
            by_cases x : xun (wrd f n p).1 u r2.2.2.1 < 0
            · rw [if_pos x] at b
              exact (xer_t b g).elim
            · rw [if_neg x] at b
              by_cases n3 : r2.2.2.2.2.length = 300
              · rw [if_pos n3] at b
                exact (xer_t b g).elim
              · rw [if_neg n3] at b
                have oo := own_o (lvo_o lv (by omega))
                have za : ZC r2.2.2.2.2 (ns.length - 1) := by
                  have t := gc_pre w2.2.1 (i := ns.length - 1) (by omega)
                  unfold ZC
                  rw [t.1, t.2]
                  exact n0.2
                have zn : ZC (r2.2.2.2.2 ++ [((wrd f n p).1, 0, 0, [ns.length - 1, r2.2.2.2.2.length - 1])]) r2.2.2.2.2.length := zc_new oo.1 oo.2.1 oo.2.2 (fun c hc => by
                  rcases List.mem_cons.mp hc with e | e
                  · rw [e]
                    exact za
                  · rw [List.mem_singleton.mp e]
                    exact t2)
                have zl : ZC (r2.2.2.2.2 ++ [((wrd f n p).1, 0, 0, [ns.length - 1, r2.2.2.2.2.length - 1])]) ((r2.2.2.2.2 ++ [((wrd f n p).1, 0, 0, [ns.length - 1, r2.2.2.2.2.length - 1])]).length - 1) := by
                  rw [List.length_append, List.length_singleton, Nat.add_sub_cancel]
                  exact zn
                have wn : NWf lk (r2.2.2.2.2 ++ [((wrd f n p).1, 0, 0, [ns.length - 1, r2.2.2.2.2.length - 1])]) := nwf_s w2.1 (fun c hc => by
                  rcases List.mem_cons.mp hc with e | e
                  · rw [e]
                    omega
                  · rw [List.mem_singleton.mp e]
                    omega) (fun z => absurd z oo.2.1)
                by_cases z : m - 4 = 0
                · rw [if_pos z] at b
                  rw [b]
                  exact zl
                · rw [if_neg z] at b
                  exact ih (m - 4 + 4) _ _ _ _ _ (by omega) b g wn (fun _ => ⟨by rw [List.length_append, List.length_singleton]; omega, zl⟩)
          · rw [if_neg g2] at b
            rw [b] at g
            exact absurd g g2
        · rw [if_neg lv] at h
          by_cases z : m - 4 = 0
          · rw [if_pos z] at h
            exact (xer_t h g).elim
          · rw [if_neg z] at h
            rw [h]
            exact n0.2
/-! sums and tests: no statement among their nodes -/
def NOw (ns ms : List Nod) : Prop := ∀ (i : Nat) (d : Nod), ns.length ≤ i → ms[i]? = some d → own d.1 = 0
theorem now_r (ns : List Nod) : NOw ns ns := fun i d hi hd => by
  have := (List.getElem?_eq_some_iff.mp hd).1
  omega
theorem now_tr {a b c : List Nod} (h : NOw a b) (hp : PRE b c) (h2 : NOw b c) : NOw a c := fun i d hi hd => by
  by_cases q : i < b.length
  · obtain ⟨t, e⟩ := hp
    rw [e, List.getElem?_append_left q] at hd
    exact h i d hi hd
  · exact h2 i d (by omega) hd
theorem now_1 {ns : List Nod} {d : Nod} (h : own d.1 = 0) : NOw ns (ns ++ [d]) := fun i x hi hx => by
  rcases app_get hx with q | ⟨_, q2⟩
  · have := (List.getElem?_eq_some_iff.mp q).1
    omega
  · rw [q2]
    exact h
theorem xnd_ow {f : Int → Int} {n u p : Int} {ns : List Nod} {d : Nod} {r : XR} (e : r = xnd f n u p ns d) (g : r.1 = true) (h0 : own d.1 = 0) : NOw ns r.2.2.2.2 ∧ PRE ns r.2.2.2.2 := by
  unfold xnd at e
  by_cases c : ns.length = 300
  · rw [if_pos c] at e
    exact (xer_t e g).elim
  · rw [if_neg c] at e
    rw [e]
    exact ⟨now_1 h0, PRE.one ns d⟩
def XOr (X : XQ) : Prop := ∀ (m op : Nat) (u p : Int) (ns : List Nod) (r : XR), m ≤ 6 → X m op u p ns r → r.1 = true → NOw ns r.2.2.2.2 ∧ PRE ns r.2.2.2.2
theorem XP_own (f : Int → Int) (n : Int) (lk : List Int → Int × Int × Int × Int) : ∀ k, XOr (XP f n lk k) := by
  intro k
  induction k with
  | zero => exact fun _ _ _ _ _ _ _ h => False.elim h
  | succ k ih =>
    intro m op u p ns r m6 h g
    rw [XP_u] at h
    by_cases c : m = 3
    · rw [if_pos c] at h
      unfold xfa at h
      by_cases k31 : (wrd f n p).1 = 31
      · rw [if_pos k31] at h
        unfold xfn at h
        have h := xgo_t h g
        by_cases big : 999999999999 < (wrd f n p).2.2.2.2.1 * xmu (wrd f n (wrd f n p).2.2.1).1
        · rw [if_pos big] at h
          exact (xer_t h g).elim
        · rw [if_neg big] at h
          by_cases uu : 0 < xut (wrd f n (wrd f n p).2.2.1).1
          · rw [if_pos uu] at h
            exact xnd_ow (xgo_t h g) g (show own 31 = 0 by decide)
          · rw [if_neg uu] at h
            exact xnd_ow h g (show own 31 = 0 by decide)
      · rw [if_neg k31] at h
        by_cases k40 : (wrd f n p).1 = 40 ∨ (wrd f n p).1 = 45
        · rw [if_pos k40] at h
          unfold xfo at h
          by_cases o : 20 ≤ op
          · rw [if_pos o] at h
            exact (xer_t h g).elim
          · rw [if_neg o] at h
            have h := xgo_t h g
            by_cases k45 : (wrd f n p).1 = 45
            · rw [if_pos k45] at h
              obtain ⟨r1, a, b⟩ := h
              by_cases g1 : r1.1 = true
              · rw [if_pos g1] at b
                have t1 := ih 3 _ _ _ _ _ (by decide) a g1
                have t2 := xnd_ow b g (show own 34 = 0 by decide)
                exact ⟨now_tr t1.1 t2.2 t2.1, t1.2.tr t2.2⟩
              · rw [if_neg g1] at b
                rw [b] at g
                exact absurd g g1
            · rw [if_neg k45] at h
              obtain ⟨r1, a, b⟩ := h
              by_cases g1 : r1.1 = true
              · rw [if_pos g1] at b
                have t1 := ih 1 _ _ _ _ _ (by decide) a g1
                by_cases k41 : (wrd f n r1.2.2.2.1).1 = 41
                · rw [if_pos k41] at b
                  rw [xgo_t b g]
                  exact t1
                · rw [if_neg k41] at b
                  exact (xer_t b g).elim
              · rw [if_neg g1] at b
                rw [b] at g
                exact absurd g g1
        · rw [if_neg k40] at h
          by_cases k30 : (wrd f n p).1 = 30 ∧ 0 ≤ (lk (wrd f n p).2.2.2.1).1 ∧ ¬ (lk (wrd f n p).2.2.2.1).2.1 = 10
          · rw [if_pos k30] at h
            exact xnd_ow (xgo_t h g) g (show own 30 = 0 by decide)
          · rw [if_neg k30] at h
            exact (xer_t h g).elim
    · rw [if_neg c] at h
      by_cases d : m < 3
      · rw [if_pos d] at h
        obtain ⟨r1, a, b⟩ := h
        by_cases g1 : r1.1 = true
        · rw [if_pos g1] at b
          have t1 := ih (m + 1) _ _ _ _ _ (by omega) a g1
          have t2 := ih (m + 4) _ _ _ _ _ (by omega) b g
          exact ⟨now_tr t1.1 t2.2 t2.1, t1.2.tr t2.2⟩
        · rw [if_neg g1] at b
          rw [b] at g
          exact absurd g g1
      · rw [if_neg d] at h
        unfold xlo at h
        by_cases lv : lvo (wrd f n p).1 = m - 4
        · rw [if_pos lv] at h
          have h := xgo_t h g
          obtain ⟨r2, a, b⟩ := h
          by_cases g2 : r2.1 = true
          · rw [if_pos g2] at b
            have t2 := ih (m - 4 + 1) _ _ _ _ _ (by omega) a g2
            by_cases x : xun (wrd f n p).1 u r2.2.2.1 < 0
            · rw [if_pos x] at b
              exact (xer_t b g).elim
            · rw [if_neg x] at b
              by_cases n3 : r2.2.2.2.2.length = 300
              · rw [if_pos n3] at b
                exact (xer_t b g).elim
              · rw [if_neg n3] at b
                have oo := own_o (lvo_o lv (by omega))
                have p1 := PRE.one r2.2.2.2.2 ((wrd f n p).1, 0, 0, [ns.length - 1, r2.2.2.2.2.length - 1])
                have o1 : NOw ns (r2.2.2.2.2 ++ [((wrd f n p).1, 0, 0, [ns.length - 1, r2.2.2.2.2.length - 1])]) := now_tr t2.1 p1 (now_1 oo.1)
                by_cases z : m - 4 = 0
                · rw [if_pos z] at b
                  rw [b]
                  exact ⟨o1, t2.2.tr p1⟩
                · rw [if_neg z] at b
                  have t3 := ih (m - 4 + 4) _ _ _ _ _ (by omega) b g
                  exact ⟨now_tr o1 t3.2 t3.1, (t2.2.tr p1).tr t3.2⟩
          · rw [if_neg g2] at b
            rw [b] at g
            exact absurd g g2
        · rw [if_neg lv] at h
          by_cases z : m - 4 = 0
          · rw [if_pos z] at h
            exact (xer_t h g).elim
          · rw [if_neg z] at h
            rw [h]
            exact ⟨now_r ns, PRE.refl ns⟩
/-! the class reads statements: the pieces -/
/-- how many statements and blocks a node makes, and how deep, as the class has it -/
def SzC (w : MW) (ns : List Nod) : Prop := ∀ (i : Nat) (d : Nod), ns[i]? = some d → ¬ own d.1 = 0 → (w.1 88 i).toInt = gC (csl ns []) i ∧ (w.1 89 i).toInt = gD (csl ns []) i
/-- the block of a step is a block -/
def DBk (lk : List Int → Int × Int × Int × Int) (ns : List Nod) : Prop := ∀ l : List Int, 0 ≤ (lk l).1 → (lk l).2.1 = 10 → ∃ d, ns[(lk l).2.2.2.toNat]? = some d ∧ d.1 = 35
/-- nothing is wrong; j statements are begun -/
def ZG (w : MW) (f : Int → Int) (n oq : Int) (nm : List Nm) (op j : Nat) (s : ZS) : Prop := XS w f n nm op s.1 s.2.1 ∧ ((w.1 108 0).toInt = s.2.2.1 + (j : Int) ∧ (w.1 108 2).toInt = oq) ∧ 0 ≤ s.2.2.1 ∧ s.2.2.1 ≤ (s.2.1.length : Int) ∧ SzC w s.2.1 ∧ NWf (lkn nm) s.2.1 ∧ LkB (lkn nm) s.2.1 ∧ DBk (lkn nm) s.2.1 ∧ KLt s
/-- it is wrong at e -/
def ZW (w : MW) (f : Int → Int) (n : Int) (nm : List Nm) (op : Nat) (e : Int) : Prop := XW w f n nm op e 0
def S0 (w w' : MW) : Prop := w'.1 108 0 = w.1 108 0 ∧ w'.1 108 2 = w.1 108 2
theorem s0_fr {l : Pl} {w w' : MW} (F : FR l w w') (ho : off l [(108, some 0), (108, some 2)] = true) : S0 w w' := ⟨(F 108 0 (off_hit ho rfl)).1, (F 108 2 (off_hit ho rfl)).1⟩
theorem szc_k {w w' : MW} {ns : List Nod} (h : SzC w ns) (e : ∀ i : Nat, i < ns.length → w'.1 88 i = w.1 88 i ∧ w'.1 89 i = w.1 89 i) : SzC w' ns := fun i d hd ho => by
  have t := e i (List.getElem?_eq_some_iff.mp hd).1
  rw [t.1, t.2]
  exact h i d hd ho
theorem szc_pre {w w' : MW} {ns ms : List Nod} (h : SzC w ns) (e : ∀ i : Nat, i < ns.length → w'.1 88 i = w.1 88 i ∧ w'.1 89 i = w.1 89 i) (hp : PRE ns ms) (ho : NOw ns ms) : SzC w' ms := fun i d hd hn => by
  by_cases q : i < ns.length
  · obtain ⟨t, et⟩ := id hp
    have hd' : ns[i]? = some d := by
      rw [et, List.getElem?_append_left q] at hd
      exact hd
    have g := gc_pre hp q
    have k := e i q
    rw [g.1, g.2, k.1, k.2]
    exact h i d hd' hn
  · exact absurd (ho i d (by omega) hd) hn
theorem dbk_m {lk : List Int → Int × Int × Int × Int} {a b : List Nod} (h : DBk lk a) (hp : PRE a b) : DBk lk b := fun l h0 h1 => by
  obtain ⟨d, hd, e⟩ := h l h0 h1
  exact ⟨d, hp.get hd, e⟩
/-- a step that leaves nodes, sizes and the count alone -/
theorem zg_x {oq : Int} {w w' : MW} {f : Int → Int} {n : Int} {nm : List Nm} {op op' j : Nat} {q : Int} {s : ZS} (h : ZG w f n oq nm op j s) (X' : XS w' f n nm op' q s.2.1) (e : ∀ i : Nat, i < s.2.1.length → w'.1 88 i = w.1 88 i ∧ w'.1 89 i = w.1 89 i) (e0 : S0 w w') (A : Int × Int × Int) : ZG w' f n oq nm op' j (q, s.2.1, s.2.2.1, s.2.2.2.1, A) :=
  ⟨X', ⟨by rw [e0.1]; exact h.2.1.1, by rw [e0.2]; exact h.2.1.2⟩, h.2.2.1, h.2.2.2.1, szc_k h.2.2.2.2.1 e, h.2.2.2.2.2⟩
theorem zw_of {w : MW} {f : Int → Int} {n : Int} {nm : List Nm} {op N : Nat} {e : Int} (h : XW w f n nm op e N) : ZW w f n nm op e := w_mono h (Nat.zero_le _)
theorem fr_89 {l : Pl} {w w' : MW} (F : FR l w w') (ho : off l [(88, none), (89, none)] = true) (N : Nat) : ∀ i : Nat, i < N → w'.1 88 i = w.1 88 i ∧ w'.1 89 i = w.1 89 i := fun i _ => ⟨(F 88 i (off_hit ho rfl)).1, (F 89 i (off_hit ho rfl)).1⟩
/-- the word that stands here -/
theorem ct_go {oq : Int} {w : MW} {f : Int → Int} {n : Int} {nm : List Nm} {op j : Nat} {c : Int} {s : ZS} {Q : MW → Prop} (h : ZG w f n oq nm op j s) (k : (wrd f n s.1).1 = c) (hb : ∀ (w' : MW) (r : ZR), ZI f n (lkn nm) op 0 c s r → r.1 = false → ZW w' f n nm op r.2.1 → Q w') (hg : ∀ (w' : MW) (s' : ZS), ZI f n (lkn nm) op 0 c s (zok s') → s' = ((wrd f n s.1).2.2.1, s.2) → FR lpw w w' → ZG w' f n oq nm op j s' → Q w') : p_Rd_nextWord w Q := by
  have X := h.1
  exact nx_g X.1 X.2.2.2.1 X.2.1.2.2.1 X.2.2.2.2.1 X.2.2.2.2.2.1 (fun ok w' F' X' => hg w' ((wrd f n s.1).2.2.1, s.2) (ZI_0 (by unfold ztk zgo; rw [if_pos k, if_neg ok])) rfl F' (zg_x h X' (fr_89 F' rfl _) (s0_fr F' rfl) s.2.2.2.2)) (fun bad w' F' X' => hb w' (zer (wrd f n (wrd f n s.1).2.2.1).2.1) (ZI_0 (by unfold ztk zgo; rw [if_pos k, if_pos bad])) rfl (zw_of X'))
/-- a word that must stand here -/
theorem ct_tk {oq : Int} {w : MW} {f : Int → Int} {n : Int} {nm : List Nm} {op j : Nat} {c : Int} {s : ZS} {a : Int32} {Q : MW → Prop} (h : ZG w f n oq nm op j s) (ha : a.toInt = c) (hb : ∀ (w' : MW) (r : ZR), ZI f n (lkn nm) op 0 c s r → r.1 = false → ZW w' f n nm op r.2.1 → Q w') (hg : ∀ (w' : MW) (s' : ZS), ZI f n (lkn nm) op 0 c s (zok s') → s' = ((wrd f n s.1).2.2.1, s.2) → FR lpw w w' → ZG w' f n oq nm op j s' → Q w') : p_Rd_take w a Q := by
  have X := h.1
  have hw := X.2.2.2.1
  have c3 : (w.1 87 3).toInt = (wrd f n s.1).1 := X.2.1.1
  refine Eq.mpr (p_Rd_take.eq_1 _ _ _) ⟨fun z => absurd z (by omega), fun _ => ⟨fun e => ct_go h (by omega) hb hg, fun e => fl_g X (fun w' F' X' => hb w' (zer (wrd f n s.1).2.1) (ZI_0 (by unfold ztk; rw [if_neg (by omega)])) rfl (zw_of X'))⟩⟩
theorem cw_tk {w : MW} {f : Int → Int} {n : Int} {nm : List Nm} {op : Nat} {e : Int} {a : Int32} {Q : MW → Prop} (h : ZW w f n nm op e) (hQ : Q w) : p_Rd_take w a Q := by
  have e0 := h.2.2.1
  have ew := h.2.1
  exact Eq.mpr (p_Rd_take.eq_1 _ _ _) ⟨fun _ => fl_w h hQ, fun z => absurd (show 0 ≤ (w.1 87 9).toInt by omega) z⟩
theorem cw_de {w : MW} {f : Int → Int} {n : Int} {nm : List Nm} {op : Nat} {e : Int} {a b : Int32} {Q : MW → Prop} (h : ZW w f n nm op e) (hQ : Q w) : p_Rd_demand w a b Q :=
  Eq.mpr (p_Rd_demand.eq_1 _ _ _ _) ⟨fun _ => hQ, fun _ => fl_w h hQ⟩
/-- a name of a kind -/
theorem ct_nm {oq : Int} {w : MW} {f : Int → Int} {n : Int} {nm : List Nm} {op j : Nat} {c : Int} {s : ZS} {a : Int32} {Q : Int32 → MW → Prop} (h : ZG w f n oq nm op j s) (ha : a.toInt = c) (hb : ∀ (w' : MW) (r : ZR), ZI f n (lkn nm) op 1 c s r → r.1 = false → ZW w' f n nm op r.2.1 → Q (-1) w') (hb2 : ∀ (w' : MW) (r : ZR) (i : Nat) (x : Nm), nm[i]? = some x → x.2.1 = c → lkn nm (wrd f n s.1).2.2.2.1 = ((i : Int), x.2.1, x.2.2.1, x.2.2.2) → ZI f n (lkn nm) op 1 c s r → r.1 = false → i < 40 → ZW w' f n nm op r.2.1 → Q (nI i) w') (hg : ∀ (w' : MW) (s' : ZS) (i : Nat) (x : Nm), nm[i]? = some x → ZI f n (lkn nm) op 1 c s (zok s') → s' = ((wrd f n s.1).2.2.1, s.2.1, s.2.2.1, s.2.2.2.1, (i : Int), x.2.2.1, x.2.2.2) → x.2.1 = c → lkn nm (wrd f n s.1).2.2.2.1 = ((i : Int), x.2.1, x.2.2.1, x.2.2.2) → ZG w' f n oq nm op j s' → Q (nI i) w') : p_Rd_takeName w a Q := by
  have X := h.1
  have hw := X.2.2.2.1
  have c3 : (w.1 87 3).toInt = (wrd f n s.1).1 := X.2.1.1
  have NM := X.1.2.2.2.2.2.2.1
  have bad : ¬ ((wrd f n s.1).1 = 30 ∧ 0 ≤ (lkn nm (wrd f n s.1).2.2.2.1).1 ∧ (lkn nm (wrd f n s.1).2.2.2.1).2.1 = c) → p_Rd_fail w (fun w3 => (Q (-1) w3)) := fun no => fl_g X (fun w' F' X' => hb w' (zer (wrd f n s.1).2.1) (ZI_1 (by unfold znm; rw [if_neg no])) rfl (zw_of X'))
  have neg : ¬ ((wrd f n s.1).1 = 30 ∧ 0 ≤ (lkn nm (wrd f n s.1).2.2.2.1).1 ∧ (lkn nm (wrd f n s.1).2.2.2.1).2.1 = c) → q_Rd_takeName_31 a (-1) w Q := fun no => Eq.mpr (q_Rd_takeName_31.eq_1 _ _ _ _) ⟨fun _ => bad no, fun z => absurd (show (-1 : Int32).toInt < 0 by decide) z⟩
  refine Eq.mpr (p_Rd_takeName.eq_1 _ _ _) ⟨fun z => absurd z (by omega), fun _ => ⟨fun n30 => neg (fun z => n30 (by omega)), fun y30 => ⟨X.1.2.2.1, ?_⟩⟩⟩
  have k30 : (wrd f n s.1).1 = 30 := by
    have := Classical.not_not.mp y30
    omega
  have wl := wrd_l (f := f) (n := n) (p := s.1) (by omega)
  refine fd_x NM (X.2.1.2.2.2.1 (by omega)) wl.1 wl.2 (fun z => neg (fun q => by have := q.2.1; omega)) (fun i x hx el => ?_)
  have n4 := NM.2.1
  have il : i < nm.length := (List.getElem?_eq_some_iff.mp hx).1
  have ti : (nI i).toInt = (i : Int) := nI_toInt (by omega)
  have tn : (nI i).toInt.toNat = i := by omega
  have t := NM.2.2 i x hx
  refine Eq.mpr (q_Rd_takeName_31.eq_1 _ _ _ _) ⟨fun z => absurd z (by omega), fun _ => ⟨X.1.2.2.1, ⟨by omega, by omega⟩, ?_⟩⟩
  rw [tn, t.2.1, ha]
  refine ⟨fun ec => ?_, fun ne => bad (fun z => ne ?_)⟩
  · have yes : (wrd f n s.1).1 = 30 ∧ 0 ≤ (lkn nm (wrd f n s.1).2.2.2.1).1 ∧ (lkn nm (wrd f n s.1).2.2.2.1).2.1 = c := ⟨k30, by rw [el]; show (0 : Int) ≤ (i : Int); omega, by rw [el]; exact ec⟩
    refine nx_g X.1 hw X.2.1.2.2.1 X.2.2.2.2.1 X.2.2.2.2.2.1 (fun ok w' F' X' => ?_) (fun bd w' F' X' => hb2 w' (zer (wrd f n (wrd f n s.1).2.2.1).2.1) i x hx ec el (ZI_1 (by unfold znm zgo; rw [if_pos yes, if_pos bd])) rfl (by omega) (zw_of X'))
    exact hg w' ((wrd f n s.1).2.2.1, s.2.1, s.2.2.1, s.2.2.2.1, (i : Int), x.2.2.1, x.2.2.2) i x hx (ZI_1 (by unfold znm zgo; rw [if_pos yes, if_neg ok, el])) rfl ec el (zg_x h X' (fr_89 F' rfl _) (s0_fr F' rfl) ((i : Int), x.2.2.1, x.2.2.2))
  · have z2 := z.2.2
    rw [el] at z2
    exact z2
theorem cw_nm {w : MW} {f : Int → Int} {n : Int} {nm : List Nm} {op : Nat} {e : Int} {a : Int32} {Q : Int32 → MW → Prop} (h : ZW w f n nm op e) (hQ : Q (-1) w) : p_Rd_takeName w a Q := by
  have e0 := h.2.2.1
  have ew := h.2.1
  exact Eq.mpr (p_Rd_takeName.eq_1 _ _ _) ⟨fun _ => Eq.mpr (q_Rd_takeName_31.eq_1 _ _ _ _) ⟨fun _ => fl_w h hQ, fun z => absurd (show (-1 : Int32).toInt < 0 by decide) z⟩, fun z => absurd (show 0 ≤ (w.1 87 9).toInt by omega) z⟩
/-- a sum (m = 1) or a test (m = 0) -/
theorem ct_lev {oq : Int} {w : MW} {f : Int → Int} {n : Int} {nm : List Nm} {op j m : Nat} {s : ZS} {a : Int32} {Q : Int32 → MW → Prop} (h : ZG w f n oq nm op j s) (ho : op ≤ 20) (ha : a = nI m) (hm : m ≤ 1) (hb : ∀ (y : Int32) (w' : MW) (x : XR), (∃ k, XP f n (lkn nm) k m op 0 s.1 s.2.1 x) → x.1 = false → ZW w' f n nm op x.2.1 → Q y w') (hg : ∀ (y : Int32) (w' : MW) (x : XR), (∃ k, XP f n (lkn nm) k m op 0 s.1 s.2.1 x) → x.1 = true → y.toInt = x.2.2.1 → 0 ≤ x.2.2.1 → FR lexp w w' → ZG w' f n oq nm op j (x.2.2.2.1, x.2.2.2.2, s.2.2.1, s.2.2.2.1 ++ [x.2.2.2.2.length - 1], s.2.2.2.2) → ZC x.2.2.2.2 (x.2.2.2.2.length - 1) → Q y w') : p_Rd_readLevel w a Q := by
  rw [ha]
  refine (exp_c f n nm 400).2 m op s.1 s.2.1 w Q (by omega) ho (by omega) h.1 (fun y w' x hx o => ?_)
  obtain ⟨K, F, o⟩ := o
  obtain ⟨k, hx'⟩ := id hx
  rcases o with ⟨g, X', ey, e0, pp, nn⟩ | ⟨g, X'⟩
  · have wf := XP_wf f n (lkn nm) k m op 0 s.1 s.2.1 x (by omega) hx' g h.2.2.2.2.2.1 (by omega)
    have ow := XP_own f n (lkn nm) k m op 0 s.1 s.2.1 x (by omega) hx' g
    have zc := XP_z f n (lkn nm) k m op 0 s.1 s.2.1 x (by omega) hx' g h.2.2.2.2.2.1 (by omega)
    refine hg y w' x hx g ey e0 F ⟨X', ⟨by rw [(F 108 0 rfl).1]; exact h.2.1.1, by rw [(F 108 2 rfl).1]; exact h.2.1.2⟩, h.2.2.1, by have := h.2.2.2.1; show s.2.2.1 ≤ (x.2.2.2.2.length : Int); omega, szc_pre h.2.2.2.2.1 (fun i hi => ⟨(K 88 i (Or.inl rfl) hi).1, (K 89 i (Or.inr (Or.inl rfl)) hi).1⟩) ow.2 ow.1, wf.1, lkb_m h.2.2.2.2.2.2.1 wf.2.1.len, dbk_m h.2.2.2.2.2.2.2.1 wf.2.1, fun c hc => ?_⟩ zc
    have hc' : c ∈ s.2.2.2.1 ++ [x.2.2.2.2.length - 1] := hc
    show c < x.2.2.2.2.length
    rcases List.mem_append.mp hc' with q | q
    · have := h.2.2.2.2.2.2.2.2 c q
      omega
    · rw [List.mem_singleton.mp q]
      omega
  · exact hb y w' x hx g (zw_of X')
theorem cw_lev {w : MW} {f : Int → Int} {n : Int} {nm : List Nm} {op m : Nat} {e : Int} {a : Int32} {Q : Int32 → MW → Prop} (h : ZW w f n nm op e) (ha : a = nI m) (hm : m ≤ 1) (hQ : ∀ y : Int32, Q y w) : p_Rd_readLevel w a Q := by
  rw [ha]
  have t := w_lev h (2 - m) m (398 - (2 - m)) Q (by omega) hQ
  rw [show 398 - (2 - m) + (2 - m) + 2 = 400 by omega] at t
  exact t
/-- a sum of a unit -/
theorem ct_sum {oq : Int} {w : MW} {f : Int → Int} {n : Int} {nm : List Nm} {op j : Nat} {c : Int} {s : ZS} {a b : Int32} {Q : MW → Prop} (h : ZG w f n oq nm op j s) (ho : op ≤ 20) (ha : a = nI 1) (hc : b.toInt = (if c < 0 then s.2.2.2.2.2.1 else c)) (hb : ∀ (w' : MW) (r : ZR), ZI f n (lkn nm) op 2 c s r → r.1 = false → ZW w' f n nm op r.2.1 → Q w') (hg : ∀ (w' : MW) (s' : ZS), ZI f n (lkn nm) op 2 c s (zok s') → s'.2.2.2.2 = s.2.2.2.2 → s'.2.2.2.1 = s.2.2.2.1 ++ [s'.2.1.length - 1] → ZC s'.2.1 (s'.2.1.length - 1) → FR lexp w w' → ZG w' f n oq nm op j s' → Q w') : p_Rd_readLevel w a (fun r8 w8 => (p_Rd_demand w8 r8 b (fun w9 => Q w9))) := by
  refine ct_lev (m := 1) h ho ha (by decide) (fun y w' x hx g W => cw_de W (hb w' (zer x.2.1) (ZI_2 ⟨x, hx, by rw [if_neg (by rw [g]; decide)]⟩) rfl W)) (fun y w' x hx g ey e0 F Z zc => ?_)
  refine Eq.mpr (p_Rd_demand.eq_1 _ _ _ _) ⟨fun eq => ?_, fun ne => fl_g Z.1 (fun w2 F2 X2 => hb w2 (zer (wrd f n x.2.2.2.1).2.1) (ZI_2 ⟨x, hx, ?_⟩) rfl (zw_of X2))⟩
  · refine hg w' (x.2.2.2.1, x.2.2.2.2, s.2.2.1, s.2.2.2.1 ++ [x.2.2.2.2.length - 1], s.2.2.2.2) (ZI_2 ⟨x, hx, ?_⟩) rfl rfl zc F Z
    rw [if_pos g, if_pos (by rw [← hc, ← eq, ey])]
  · rw [if_pos g, if_neg (fun q => ne (by rw [ey, q, hc]))]
theorem cw_sum {w : MW} {f : Int → Int} {n : Int} {nm : List Nm} {op : Nat} {e : Int} {a b : Int32} {Q : MW → Prop} (h : ZW w f n nm op e) (ha : a = nI 1) (hQ : Q w) : p_Rd_readLevel w a (fun r8 w8 => (p_Rd_demand w8 r8 b (fun w9 => Q w9))) :=
  cw_lev (m := 1) h ha (by decide) (fun y => cw_de h hQ)
/-- a test -/
theorem ct_tst {oq : Int} {w : MW} {f : Int → Int} {n : Int} {nm : List Nm} {op j : Nat} {s : ZS} {a : Int32} {Q : MW → Prop} (h : ZG w f n oq nm op j s) (ho : op ≤ 20) (ha : a = nI 0) (hb : ∀ (w' : MW) (r : ZR), ZI f n (lkn nm) op 3 0 s r → r.1 = false → ZW w' f n nm op r.2.1 → Q w') (hg : ∀ (w' : MW) (s' : ZS), ZI f n (lkn nm) op 3 0 s (zok s') → s'.2.2.2.2 = s.2.2.2.2 → s'.2.2.2.1 = s.2.2.2.1 ++ [s'.2.1.length - 1] → ZC s'.2.1 (s'.2.1.length - 1) → FR lexp w w' → ZG w' f n oq nm op j s' → Q w') : p_Rd_readLevel w a (fun r3 w3 => Q w3) := by
  refine ct_lev (m := 0) h ho ha (by decide) (fun y w' x hx g W => hb w' (zer x.2.1) (ZI_3 ⟨x, hx, by rw [if_neg (by rw [g]; decide)]⟩) rfl W) (fun y w' x hx g ey e0 F Z zc => hg w' (x.2.2.2.1, x.2.2.2.2, s.2.2.1, s.2.2.2.1 ++ [x.2.2.2.2.length - 1], s.2.2.2.2) (ZI_3 ⟨x, hx, by rw [if_pos g]⟩) rfl rfl zc F Z)
/-! the class reads statements: making their nodes -/
def lsto : Pl := [(88, none), (89, none), (111, none), (112, none), (113, none), (114, none)]
/-- stores of ranges, links and sizes -/
theorem xs_st {l : Pl} {w w' : MW} {f : Int → Int} {n : Int} {nm : List Nm} {op : Nat} {p : Int} {ns : List Nod} (h : XS w f n nm op p ns) (F : FR l w w') (B' : BND w') (hl : sub l lsto = true) : XS w' f n nm op p ns := by
  have F : FR lsto w w' := (FR.refl lsto w).tr F hl
  refine ⟨xb_fr h.1 F B' (by rw [(F 87 2 rfl).1]; exact h.1.2.2.2.2.2.2.2.2) rfl, tkc_fr h.2.1 F rfl, h.2.2.1, by rw [(F 87 9 rfl).1]; exact h.2.2.2.1, ⟨by rw [(F 108 1 rfl).1]; exact h.2.2.2.2.1.1, fun i d hd => ?_⟩, h.2.2.2.2.2⟩
  have t := h.2.2.2.2.1.2 i d hd
  rw [(F 109 i rfl).1, (F 110 i rfl).1, (F 115 i rfl).2.1]
  exact t
theorem zw_st {l : Pl} {w w' : MW} {f : Int → Int} {n : Int} {nm : List Nm} {op : Nat} {e : Int} (h : ZW w f n nm op e) (F : FR l w w') (B' : BND w') (hl : sub l lsto = true) : ZW w' f n nm op e := by
  have F : FR lsto w w' := (FR.refl lsto w).tr F hl
  exact ⟨xb_fr h.1 F B' (by rw [(F 87 2 rfl).1]; exact h.1.2.2.2.2.2.2.2.2) rfl, by rw [(F 87 9 rfl).1]; exact h.2.1, h.2.2.1, by rw [(F 108 1 rfl).1]; exact h.2.2.2.1, h.2.2.2.2⟩
/-- what making the node d behind the state t leaves -/
def MKo (w w' : MW) (f : Int → Int) (n : Int) (nm : List Nm) (op : Nat) (t : ZS) (d : Nod) (y : Int32) : Prop := (t.2.1.length = 300 ∧ ZW w' f n nm op (wrd f n t.1).2.1 ∧ 0 ≤ y.toInt ∧ y.toInt < 301) ∨ (¬ t.2.1.length = 300 ∧ y.toInt = (t.2.1.length : Int) ∧ XS w' f n nm op t.1 (t.2.1 ++ [d]) ∧ (∀ i : Nat, i < t.2.1.length → w'.1 88 i = w.1 88 i ∧ w'.1 89 i = w.1 89 i) ∧ S0 w w' ∧ (w'.1 88 t.2.1.length).toInt = (cs1 (csl t.2.1 []) d).1 ∧ (w'.1 89 t.2.1.length).toInt = (cs1 (csl t.2.1 []) d).2)
theorem cm_mk {oq : Int} {w : MW} {f : Int → Int} {n : Int} {nm : List Nm} {op j : Nat} {t : ZS} {a b : Int32} {d : Nod} {Q : Int32 → MW → Prop} (h : ZG w f n oq nm op j t) (ha : a.toInt = d.1) (hb : b.toInt = d.2.1) (hd : ¬ d.1 = 31) (h0 : t.2.1.length = 300 → ∀ w', ZW w' f n nm op (wrd f n t.1).2.1 → Q (nI 300) w') (h1 : ¬ t.2.1.length = 300 → ∀ w', XS w' f n nm op t.1 (t.2.1 ++ [d]) → (∀ i : Nat, i < t.2.1.length → w'.1 88 i = w.1 88 i ∧ w'.1 89 i = w.1 89 i) → S0 w w' → (w'.1 88 t.2.1.length).toInt = 1 → (w'.1 89 t.2.1.length).toInt = 0 → Q (nI t.2.1.length) w') : p_Rd_makeNode w a b Q := by
  refine mk_g (d := d) h.1 ha hb hd (fun n3 w' F' K' X' _ _ _ _ e88 e89 => h1 n3 w' X' (fun i hi => ⟨(K' 88 i (Or.inl rfl) hi).1, (K' 89 i (Or.inr (Or.inl rfl)) hi).1⟩) (s0_fr F' rfl) e88 e89) (fun n3 w' F' K' X' => ?_)
  have t := h0 n3 w' (zw_of X')
  rw [n3]
  exact t
theorem cw_mk {w : MW} {f : Int → Int} {n : Int} {nm : List Nm} {op : Nat} {e : Int} {a b : Int32} {Q : Int32 → MW → Prop} (h : ZW w f n nm op e) (hQ : ∀ (r : Int32) (w' : MW), 0 ≤ r.toInt → r.toInt < 301 → ZW w' f n nm op e → Q r w') : p_Rd_makeNode w a b Q :=
  mk_w h (fun r w' _ _ r0 r1 _ X' => hQ r w' r0 r1 X')
theorem cw_gr {w : MW} {f : Int → Int} {n : Int} {nm : List Nm} {op : Nat} {e : Int} {a b c : Int32} {Q : Int32 → MW → Prop} (h : ZW w f n nm op e) (a0 : 0 ≤ a.toInt) (a1 : a.toInt < 301) (b0 : 0 ≤ b.toInt ∧ b.toInt ≤ 301) (c0 : 0 ≤ c.toInt ∧ c.toInt ≤ 301) (hQ : ∀ w', ZW w' f n nm op e → Q a w') : p_Rd_giveRange w a b c Q := by
  have F : FR [(111, none), (112, none)] w (sI (sI w 111 a.toInt.toNat b) 112 a.toInt.toNat c) := FR.I (FR.I (FR.refl _ w) rfl) rfl
  have hB : BND (sI (sI w 111 a.toInt.toNat b) 112 a.toInt.toNat c) := wbd_112 (wbd_111 h.1.1 _ b0.1 b0.2) _ c0.1 c0.2
  exact Eq.mpr (p_Rd_giveRange.eq_1 _ _ _ _ _) ⟨h.1.2.2.1, ⟨a0, a1⟩, h.1.2.2.1, ⟨a0, a1⟩, hQ _ (zw_st h F hB rfl)⟩
/-- a node with a range, of size 1 -/
theorem cm_gr {oq : Int} {w : MW} {f : Int → Int} {n : Int} {nm : List Nm} {op j : Nat} {t : ZS} {a b fr to : Int32} {d : Nod} {Q : Int32 → MW → Prop} (h : ZG w f n oq nm op j t) (ha : a.toInt = d.1) (hb : b.toInt = d.2.1) (hd : ¬ d.1 = 31) (hc : cs1 (csl t.2.1 []) d = (1, 0)) (f0 : 0 ≤ fr.toInt ∧ fr.toInt ≤ 301) (t0 : 0 ≤ to.toInt ∧ to.toInt ≤ 301) (hQ : ∀ (y : Int32) (w' : MW), MKo w w' f n nm op t d y → Q y w') : p_Rd_makeNode w a b (fun r6 w6 => (p_Rd_giveRange w6 r6 fr to (fun r7 w7 => (Q r7 w7)))) := by
  have l3 := h.1.2.2.2.2.2.1
  refine cm_mk h ha hb hd (fun n3 w' W' => cw_gr W' (by decide) (by decide) f0 t0 (fun w2 W2 => hQ _ w2 (Or.inl ⟨n3, W2, by decide, by decide⟩))) (fun n3 w' X' e8 e0 e88 e89 => ?_)
  have tn : (nI t.2.1.length).toInt = (t.2.1.length : Int) := nI_toInt (by omega)
  have tt : (nI t.2.1.length).toInt.toNat = t.2.1.length := by omega
  have F : FR [(111, none), (112, none)] w' (sI (sI w' 111 (nI t.2.1.length).toInt.toNat fr) 112 (nI t.2.1.length).toInt.toNat to) := FR.I (FR.I (FR.refl _ w') rfl) rfl
  have hB : BND (sI (sI w' 111 (nI t.2.1.length).toInt.toNat fr) 112 (nI t.2.1.length).toInt.toNat to) := wbd_112 (wbd_111 X'.1.1 _ f0.1 f0.2) _ t0.1 t0.2
  refine Eq.mpr (p_Rd_giveRange.eq_1 _ _ _ _ _) ⟨X'.1.2.2.1, ⟨by omega, by omega⟩, X'.1.2.2.1, ⟨by omega, by omega⟩, hQ _ _ (Or.inr ⟨n3, tn, xs_st X' F hB rfl, fun i hi => ?_, ?_, ?_, ?_⟩)⟩
  · rw [(F 88 i rfl).1, (F 89 i rfl).1]
    exact e8 i hi
  · exact ⟨(F 108 0 rfl).1.trans e0.1, (F 108 2 rfl).1.trans e0.2⟩
  · rw [(F 88 _ rfl).1, hc]
    exact e88
  · rw [(F 89 _ rfl).1, hc]
    exact e89
/-- a new node among the others -/
theorem zg_new {oq : Int} {w w2 : MW} {f : Int → Int} {n m : Int} {nm : List Nm} {op j jj : Nat} {s t : ZS} {d : Nod} (h : ZG w f n oq nm op jj t) (hjj : (jj : Int) = m + (j : Int)) (m0 : 0 ≤ m) (m1 : m ≤ 1) (X2 : XS w2 f n nm op t.1 (t.2.1 ++ [d])) (e8 : ∀ i : Nat, i < t.2.1.length → w2.1 88 i = w.1 88 i ∧ w2.1 89 i = w.1 89 i) (e0 : S0 w w2) (e88 : (w2.1 88 t.2.1.length).toInt = (cs1 (csl t.2.1 []) d).1) (e89 : (w2.1 89 t.2.1.length).toInt = (cs1 (csl t.2.1 []) d).2) (hk : ∀ c ∈ d.2.2.2, c < t.2.1.length) (hd : DOk (lkn nm) t.2.1.length d) (hs : KLt s) (hp : PRE s.2.1 t.2.1) : ZG w2 f n oq nm op j (t.1, t.2.1 ++ [d], t.2.2.1 + m, s.2.2.2.1 ++ [t.2.1.length], s.2.2.2.2) := by
  have p1 := PRE.one t.2.1 d
  have len : (t.2.1 ++ [d]).length = t.2.1.length + 1 := by rw [List.length_append, List.length_singleton]
  refine ⟨X2, ?_, ?_, ?_, fun i x hx hn => ?_, nwf_s h.2.2.2.2.2.1 hk hd, lkb_m h.2.2.2.2.2.2.1 p1.len, dbk_m h.2.2.2.2.2.2.2.1 p1, fun c hc => ?_⟩
  · refine ⟨?_, by rw [e0.2]; exact h.2.1.2⟩
    rw [e0.1, h.2.1.1]
    show t.2.2.1 + (jj : Int) = t.2.2.1 + m + (j : Int)
    omega
  · show 0 ≤ t.2.2.1 + m
    have := h.2.2.1
    omega
  · show t.2.2.1 + m ≤ ((t.2.1 ++ [d]).length : Int)
    have := h.2.2.2.1
    rw [len]
    omega
  · show (w2.1 88 i).toInt = gC (csl (t.2.1 ++ [d]) []) i ∧ (w2.1 89 i).toInt = gD (csl (t.2.1 ++ [d]) []) i
    rcases app_get hx with q | ⟨q, q2⟩
    · have il := (List.getElem?_eq_some_iff.mp q).1
      have g := gc_pre p1 il
      have k := e8 i il
      rw [g.1, g.2, k.1, k.2]
      exact h.2.2.2.2.1 i x q hn
    · have g := gc_new t.2.1 d
      rw [q, g.1, g.2]
      exact ⟨e88, e89⟩
  · have hc' : c ∈ s.2.2.2.1 ++ [t.2.1.length] := hc
    show c < (t.2.1 ++ [d]).length
    rw [len]
    have l := hp.len
    rcases List.mem_append.mp hc' with q | q
    · have := hs c q
      omega
    · rw [List.mem_singleton.mp q]
      omega
/-- what a block or a statement leaves -/
def CR (w' : MW) (f : Int → Int) (n oq : Int) (nm : List Nm) (op j : Nat) (s : ZS) (r : ZR) (y : Int32) : Prop := (∃ s' : ZS, r = zok s' ∧ ZG w' f n oq nm op j s' ∧ y.toInt + 1 = (s'.2.1.length : Int) ∧ s'.2.2.2 = (s.2.2.2.1 ++ [s'.2.1.length - 1], s.2.2.2.2) ∧ (w'.1 88 y.toInt.toNat).toInt = gC (csl s'.2.1 []) (s'.2.1.length - 1) ∧ (w'.1 89 y.toInt.toNat).toInt = gD (csl s'.2.1 []) (s'.2.1.length - 1) ∧ s.2.1.length < s'.2.1.length) ∨ (r.1 = false ∧ ZW w' f n nm op r.2.1 ∧ 0 ≤ y.toInt ∧ y.toInt < 301)
def HCm (F : MW → (Int32 → MW → Prop) → Prop) (c : Int) (op j : Nat) (f : Int → Int) (n oq : Int) (nm : List Nm) : Prop := ∀ (s : ZS) (w : MW) (Q : Int32 → MW → Prop), ZG w f n oq nm op j s → (∀ (y : Int32) (w' : MW) (r : ZR), ZI f n (lkn nm) op c 0 s r → CR w' f n oq nm op j s r y → Q y w') → F w Q
/-- the node of a statement or a block, told -/
theorem mko_cr {oq : Int} {w w' : MW} {f : Int → Int} {n m c : Int} {nm : List Nm} {op op' j jj : Nat} {s t : ZS} {d : Nod} {y : Int32} {Q : Int32 → MW → Prop} (h : ZG w f n oq nm op jj t) (hjj : (jj : Int) = m + (j : Int)) (m0 : 0 ≤ m) (m1 : m ≤ 1) (o : MKo w w' f n nm op t d y) (hk : ∀ c ∈ d.2.2.2, c < t.2.1.length) (hd : DOk (lkn nm) t.2.1.length d) (hs : KLt s) (hp : PRE s.2.1 t.2.1) (all : ∀ r, r = znd f n s t m d → ZI f n (lkn nm) op' c 0 s r) (hQ : ∀ (y : Int32) (w' : MW) (r : ZR), ZI f n (lkn nm) op' c 0 s r → CR w' f n oq nm op j s r y → Q y w') : Q y w' := by
  rcases o with ⟨n3, W, y0, y1⟩ | ⟨n3, ey, X, e8, e0, e88, e89⟩
  · refine hQ y w' (zer (wrd f n t.1).2.1) (all _ ?_) (Or.inr ⟨rfl, W, y0, y1⟩)
    unfold znd
    rw [if_pos n3]
  · have len : (t.2.1 ++ [d]).length = t.2.1.length + 1 := by rw [List.length_append, List.length_singleton]
    have g := gc_new t.2.1 d
    have yt : y.toInt.toNat = t.2.1.length := by omega
    refine hQ y w' (zok (t.1, t.2.1 ++ [d], t.2.2.1 + m, s.2.2.2.1 ++ [t.2.1.length], s.2.2.2.2)) (all _ ?_) (Or.inl ⟨_, rfl, zg_new h hjj m0 m1 X e8 e0 e88 e89 hk hd hs hp, ?_, ?_, ?_, ?_, ?_⟩)
    · unfold znd
      rw [if_neg n3]
    · show y.toInt + 1 = ((t.2.1 ++ [d]).length : Int)
      rw [len]
      omega
    · show (s.2.2.2.1 ++ [t.2.1.length], s.2.2.2.2) = (s.2.2.2.1 ++ [(t.2.1 ++ [d]).length - 1], s.2.2.2.2)
      rw [len, Nat.add_sub_cancel]
    · show (w'.1 88 y.toInt.toNat).toInt = gC (csl (t.2.1 ++ [d]) []) ((t.2.1 ++ [d]).length - 1)
      rw [len, Nat.add_sub_cancel, yt, g.1]
      exact e88
    · show (w'.1 89 y.toInt.toNat).toInt = gD (csl (t.2.1 ++ [d]) []) ((t.2.1 ++ [d]).length - 1)
      rw [len, Nat.add_sub_cancel, yt, g.2]
      exact e89
    · show s.2.1.length < (t.2.1 ++ [d]).length
      have := hp.len
      rw [len]
      omega
/-! the class reads statements: the kinds without blocks -/
def CBd (f : Int → Int) (n : Int) (nm : List Nm) (op : Nat) (L : List (Int × Int)) (s1 : ZS) (Q : Int32 → MW → Prop) : Prop := ∀ (y : Int32) (w' : MW) (r : ZR), ZE f n (lkn nm) op L s1 r → r.1 = false → ZW w' f n nm op r.2.1 → 0 ≤ y.toInt → y.toInt < 301 → Q y w'
def CGd (f : Int → Int) (n oq : Int) (nm : List Nm) (op jj : Nat) (k : Int) (L : List (Int × Int)) (s1 : ZS) (Q : Int32 → MW → Prop) : Prop := ∀ (y : Int32) (w9 w' : MW) (t : ZS), ZE f n (lkn nm) op L s1 (zok t) → ZG w9 f n oq nm op jj t → MKo w9 w' f n nm op t (k, t.2.2.2.2.1, t.2.2.2.2.2.2, t.2.2.2.1) y → Q y w'
theorem own_s {k : Int} (h : isS k = true) : own k = 1 := by
  unfold own
  rw [if_pos (Or.inl h)]
theorem cs_1 {ns : List Nod} {k a b : Int} {l : List Nat} (h : isS k = true) (h2 : ¬ k = 23) (hk : ∀ c ∈ l, ZC ns c) : cs1 (csl ns []) (k, a, b, l) = (1, 0) := by
  have q := isS_t.mp h
  unfold cs1
  rw [if_neg h2]
  show (cap (smC (csl ns []) (own k) l), mxD (csl ns []) 0 l + (if k = 35 then 1 else 0)) = (1, 0)
  rw [own_s h, sm_z l 1 (fun c hc => (hk c hc).1), mx_z l 0 (Int.le_refl _) (fun c hc => (hk c hc).2), if_neg (by omega)]
  decide
theorem zc_pre {ns ms : List Nod} {i : Nat} (h : ZC ns i) (hp : PRE ns ms) (hi : i < ns.length) : ZC ms i := by
  have g := gc_pre hp hi
  unfold ZC
  rw [g.1, g.2]
  exact h
theorem zg_pre {oq : Int} {w : MW} {f : Int → Int} {n : Int} {nm : List Nm} {op jj op' : Nat} {c a : Int} {s s' : ZS} (h : ZG w f n oq nm op jj s) (hz : ZI f n (lkn nm) op' c a s (zok s')) : PRE s.2.1 s'.2.1 := (ZI_wf hz h.2.2.2.2.2.1 h.2.2.2.2.2.2.1 h.2.2.2.2.2.2.2.2).2.1
/-- the end of a statement: a semicolon, the node, its range -/
theorem ct_tl {oq : Int} {w : MW} {f : Int → Int} {n k : Int} {nm : List Nm} {op jj : Nat} {L : List (Int × Int)} {s1 s : ZS} {a b fr to : Int32} {Q : Int32 → MW → Prop} (hZ : ZG w f n oq nm op jj s) (hk : isS k = true) (ha : a.toInt = k) (hb : b.toInt = s.2.2.2.2.1) (hc : cs1 (csl s.2.1 []) (k, s.2.2.2.2.1, s.2.2.2.2.2.2, s.2.2.2.1) = (1, 0)) (f0 : 0 ≤ fr.toInt ∧ fr.toInt ≤ 301) (t0 : 0 ≤ to.toInt ∧ to.toInt ≤ 301) (H : ∀ r, ZE f n (lkn nm) op [(0, 59)] s r → ZE f n (lkn nm) op L s1 r) (bad : CBd f n nm op L s1 Q) (good : CGd f n oq nm op jj k L s1 Q) : p_Rd_take w 59 (fun w5 => (p_Rd_makeNode w5 a b (fun r6 w6 => (p_Rd_giveRange w6 r6 fr to (fun r7 w7 => (Q r7 w7)))))) := by
  have q := isS_t.mp hk
  refine ct_tk (c := 59) hZ (by decide) (fun w' r hz hf W => cw_mk W (fun r6 w6 r0 r1 W6 => cw_gr W6 r0 r1 f0 t0 (fun w7 W7 => bad _ w7 r (H r (ZE_b hz hf)) hf W7 r0 r1))) (fun w' s' hz es F Z => ?_)
  refine cm_gr (d := (k, s'.2.2.2.2.1, s'.2.2.2.2.2.2, s'.2.2.2.1)) Z ha ?_ (show ¬ k = 31 by omega) ?_ f0 t0 (fun y w2 o => good y w' w2 s' (H _ (ZE_g hz rfl (ZE_n _ _ _ _ _))) Z o)
  · rw [es]
    exact hb
  · rw [es]
    exact hc
theorem cw_tl {w : MW} {f : Int → Int} {n : Int} {nm : List Nm} {op : Nat} {e : Int} {a b fr to : Int32} {Q : Int32 → MW → Prop} (h : ZW w f n nm op e) (f0 : 0 ≤ fr.toInt ∧ fr.toInt ≤ 301) (t0 : 0 ≤ to.toInt ∧ to.toInt ≤ 301) (hQ : ∀ (y : Int32) (w' : MW), ZW w' f n nm op e → 0 ≤ y.toInt → y.toInt < 301 → Q y w') : p_Rd_take w 59 (fun w5 => (p_Rd_makeNode w5 a b (fun r6 w6 => (p_Rd_giveRange w6 r6 fr to (fun r7 w7 => (Q r7 w7)))))) :=
  cw_tk h (cw_mk h (fun r6 w6 r0 r1 W6 => cw_gr W6 r0 r1 f0 t0 (fun w7 W7 => hQ _ w7 W7 r0 r1)))
theorem one_z {ns : List Nod} {l : List Nat} {k : Nat} (hl : l = [k]) (h : ZC ns k) : ∀ c ∈ l, ZC ns c := fun c hc => by
  rw [hl] at hc
  rw [List.mem_singleton.mp hc]
  exact h
/-- wait -/
theorem ck_wait {oq : Int} {w : MW} {f : Int → Int} {n : Int} {nm : List Nm} {op jj : Nat} {s1 : ZS} {a : Int32} {Q : Int32 → MW → Prop} (hZ : ZG w f n oq nm op jj s1) (ho : op ≤ 20) (ha : a.toInt = 12) (h0 : s1.2.2.2.1 = []) (hA : s1.2.2.2.2 = (0, 0, 0)) (bad : CBd f n nm op [(2, 3), (0, 59)] s1 Q) (good : CGd f n oq nm op jj 12 [(2, 3), (0, 59)] s1 Q) : p_Rd_readPause w a Q := by
  have f0 := bd_108_1 hZ.1.1.1
  refine Eq.mpr (p_Rd_readPause.eq_1 _ _ _) ⟨hZ.1.1.2.2.1, fun z => absurd ha z, fun _ => ct_sum (c := 3) hZ ho (by decide) (by rw [if_neg (by decide)]; decide) (fun w' r hz hf W => Eq.mpr (q_Rd_readPause_33.eq_1 _ _ _ _) ⟨W.1.2.2.1, cw_tl W f0 (bd_108_1 W.1.1) (fun y w2 W2 y0 y1 => bad y w2 r (ZE_b hz hf) hf W2 y0 y1)⟩) (fun w' s' hz ea ek zc F Z => Eq.mpr (q_Rd_readPause_33.eq_1 _ _ _ _) ⟨Z.1.1.2.2.1, ct_tl (k := 12) Z (by decide) ha ?_ (cs_1 (by decide) (by decide) (one_z ?_ zc)) f0 (bd_108_1 Z.1.1.1) (fun r hr => ZE_g hz rfl hr) bad good⟩)⟩
  · rw [ea, hA]
    decide
  · rw [ek, h0]
    rfl
/-- until -/
theorem ck_until {oq : Int} {w : MW} {f : Int → Int} {n : Int} {nm : List Nm} {op jj : Nat} {s1 : ZS} {a : Int32} {Q : Int32 → MW → Prop} (hZ : ZG w f n oq nm op jj s1) (ho : op ≤ 20) (ha : a.toInt = 13) (h0 : s1.2.2.2.1 = []) (hA : s1.2.2.2.2 = (0, 0, 0)) (bad : CBd f n nm op [(3, 0), (0, 59)] s1 Q) (good : CGd f n oq nm op jj 13 [(3, 0), (0, 59)] s1 Q) : p_Rd_readPause w a Q := by
  have f0 := bd_108_1 hZ.1.1.1
  refine Eq.mpr (p_Rd_readPause.eq_1 _ _ _) ⟨hZ.1.1.2.2.1, fun _ => ct_tst hZ ho (by decide) (fun w' r hz hf W => Eq.mpr (q_Rd_readPause_33.eq_1 _ _ _ _) ⟨W.1.2.2.1, cw_tl W f0 (bd_108_1 W.1.1) (fun y w2 W2 y0 y1 => bad y w2 r (ZE_b hz hf) hf W2 y0 y1)⟩) (fun w' s' hz ea ek zc F Z => Eq.mpr (q_Rd_readPause_33.eq_1 _ _ _ _) ⟨Z.1.1.2.2.1, ct_tl (k := 13) Z (by decide) ha ?_ (cs_1 (by decide) (by decide) (one_z ?_ zc)) f0 (bd_108_1 Z.1.1.1) (fun r hr => ZE_g hz rfl hr) bad good⟩), fun z => by have := Classical.not_not.mp z; omega⟩
  · rw [ea, hA]
    decide
  · rw [ek, h0]
    rfl
/-- set and ramp, where it is wrong -/
theorem cw_38 {w : MW} {f : Int → Int} {n : Int} {nm : List Nm} {op : Nat} {e : Int} {k b fr du r3 : Int32} {Q : Int32 → MW → Prop} (h : ZW w f n nm op e) (f0 : 0 ≤ fr.toInt ∧ fr.toInt ≤ 301) (hQ : ∀ (y : Int32) (w' : MW), ZW w' f n nm op e → 0 ≤ y.toInt → y.toInt < 301 → Q y w') : q_Rd_readChange_38 k b fr du r3 w Q :=
  Eq.mpr (q_Rd_readChange_38.eq_1 _ _ _ _ _ _ _) (cw_de h ⟨h.1.2.2.1, fun _ => cw_tl h f0 (bd_108_1 h.1.1) hQ, fun _ => cw_tk h (cw_sum h (by decide) (cw_tl h f0 (bd_108_1 h.1.1) hQ))⟩)
theorem ck_chg {oq : Int} {w : MW} {f : Int → Int} {n k : Int} {nm : List Nm} {op jj : Nat} {L : List (Int × Int)} {s1 : ZS} {a : Int32} {Q : Int32 → MW → Prop} (hZ : ZG w f n oq nm op jj s1) (ho : op ≤ 20) (ha : a.toInt = k) (h0 : s1.2.2.2.1 = []) (hk : (k = 11 ∧ L = [(1, 9), (2, -1), (0, 59)]) ∨ (k = 14 ∧ L = [(1, 9), (2, -1), (0, 15), (2, 3), (0, 59)])) (bad : CBd f n nm op L s1 Q) (good : CGd f n oq nm op jj k L s1 Q) : p_Rd_readChange w a Q := by
  have cut : ∃ L2, L = (1, 9) :: (2, -1) :: L2 ∧ ((k = 11 ∧ L2 = [(0, 59)]) ∨ (k = 14 ∧ L2 = [(0, 15), (2, 3), (0, 59)])) := by
    rcases hk with ⟨a, b⟩ | ⟨a, b⟩
    · exact ⟨_, b, Or.inl ⟨a, rfl⟩⟩
    · exact ⟨_, b, Or.inr ⟨a, rfl⟩⟩
  obtain ⟨L2, eL, hk2⟩ := cut
  rw [eL] at bad good
  have kS : isS k = true := by
    rcases hk2 with q | q <;> (rw [q.1]; decide)
  have k23 : ¬ k = 23 := by omega
  have wrong : ∀ (w1 : MW) (r1 : Int32) (r : ZR), ZW w1 f n nm op r.2.1 → (r1.toInt < 0 ∨ (0 ≤ r1.toInt ∧ r1.toInt < 40)) → ZE f n (lkn nm) op ((1, 9) :: (2, -1) :: L2) s1 r → r.1 = false → ((w1.2.2 87 1 = some 108) ∧ (p_Rd_readLevel w1 1 (fun r3 w3 => ((0 ≤ r1.toInt → ((w3.2.2 87 1 = some 108) ∧ ((0 ≤ r1.toInt ∧ r1.toInt < 40) ∧ (q_Rd_readChange_38 a r1 (w1.1 108 1) (w3.1 118 r1.toInt.toNat) r3 w3 Q)))) ∧ (¬ (0 ≤ r1.toInt) → (q_Rd_readChange_38 a r1 (w1.1 108 1) 0 r3 w3 Q)))))) := fun w1 r1 r W hr hE hf => by
    have K : ∀ du r3 : Int32, q_Rd_readChange_38 a r1 (w1.1 108 1) du r3 w1 Q := fun du r3 => cw_38 W (bd_108_1 W.1.1) (fun y w2 W2 y0 y1 => bad y w2 r hE hf W2 y0 y1)
    exact ⟨W.1.2.2.1, cw_lev (m := 1) W (by decide) (by decide) (fun y => ⟨fun z => ⟨W.1.2.2.1, ⟨z, by omega⟩, K _ _⟩, fun _ => K _ _⟩)⟩
  refine Eq.mpr (p_Rd_readChange.eq_1 _ _ _) (ct_nm (c := 9) hZ (by decide) (fun w1 r hz hf W => wrong w1 _ r W (Or.inl (by decide)) (ZE_b hz hf) hf) (fun w1 r i x hx _ _ hz hf il W => wrong w1 _ r W (Or.inr ⟨by rw [nI_toInt (by omega)]; omega, by rw [nI_toInt (by omega)]; omega⟩) (ZE_b hz hf) hf) (fun w1 s2 i x hx hz es xc el Z1 => ?_))
  have n4 := Z1.1.1.2.2.2.2.2.2.1.2.1
  have il := (List.getElem?_eq_some_iff.mp hx).1
  have ti : (nI i).toInt = (i : Int) := nI_toInt (by omega)
  have tn : (nI i).toInt.toNat = i := by omega
  have f0 := bd_108_1 Z1.1.1.1
  refine ⟨Z1.1.1.2.2.1, ct_lev (m := 1) Z1 ho (by decide) (by decide) (fun y w3 x3 hx3 g3 W3 => ?_) (fun y w3 x3 hx3 g3 ey e0 F3 Z3 zc => ?_)⟩
  · have hz2 : ZI f n (lkn nm) op 2 (-1) s2 (zer x3.2.1) := ZI_2 ⟨x3, hx3, by rw [if_neg (by rw [g3]; decide)]⟩
    have K : ∀ du r3 : Int32, q_Rd_readChange_38 a (nI i) (w1.1 108 1) du r3 w3 Q := fun du r3 => cw_38 W3 f0 (fun y w2 W2 y0 y1 => bad y w2 _ (ZE_g hz rfl (ZE_b hz2 rfl)) rfl W2 y0 y1)
    exact ⟨fun z => ⟨W3.1.2.2.1, ⟨z, by omega⟩, K _ _⟩, fun _ => K _ _⟩
  · refine ⟨fun _ => ⟨Z3.1.1.2.2.1, ⟨by omega, by omega⟩, ?_⟩, fun z => absurd (show 0 ≤ (nI i).toInt by omega) z⟩
    have un : (w3.1 118 (nI i).toInt.toNat).toInt = x.2.2.1 := by
      rw [tn]
      exact (Z3.1.1.2.2.2.2.2.2.1.2.2 i x hx).2.2.1
    have su : s2.2.2.2.2.2.1 = x.2.2.1 := by rw [es]
    have s20 : s2.2.2.2.1 = [] := by
      rw [es]
      exact h0
    have tg : nI i = nI i := rfl
    refine Eq.mpr (q_Rd_readChange_38.eq_1 _ _ _ _ _ _ _) (Eq.mpr (p_Rd_demand.eq_1 _ _ _ _) ⟨fun eq => ?_, fun ne => ?_⟩)
    · have hz2 : ZI f n (lkn nm) op 2 (-1) s2 (zok (x3.2.2.2.1, x3.2.2.2.2, s2.2.2.1, s2.2.2.2.1 ++ [x3.2.2.2.2.length - 1], s2.2.2.2.2)) := ZI_2 ⟨x3, hx3, by rw [if_pos g3, if_pos (by rw [if_pos (by decide), su, ← un, ← eq, ey])]⟩
      have arg : (nI i).toInt = s2.2.2.2.2.1 := by
        rw [es]
        exact ti
      have z1 : ∀ c ∈ s2.2.2.2.1 ++ [x3.2.2.2.2.length - 1], ZC x3.2.2.2.2 c := one_z (by rw [s20]; rfl) zc
      refine ⟨Z3.1.1.2.2.1, fun n14 => ?_, fun y14 => ?_⟩
      · have q11 : L2 = [(0, 59)] := by
          rcases hk2 with q | q
          · exact q.2
          · exact absurd (ha.trans q.1) n14
        rw [q11] at bad good
        exact ct_tl (k := k) Z3 kS ha arg (cs_1 kS k23 z1) f0 (bd_108_1 Z3.1.1.1) (fun r hr => ZE_g hz rfl (ZE_g hz2 rfl hr)) bad good
      · have q14 : L2 = [(0, 15), (2, 3), (0, 59)] := by
          rcases hk2 with q | q
          · have := Classical.not_not.mp y14
            omega
          · exact q.2
        rw [q14] at bad good
        have t0 := bd_108_1 Z3.1.1.1
        refine ct_tk (c := 15) Z3 (by decide) (fun w4 r hz3 hf W4 => cw_sum W4 (by decide) (cw_tl W4 f0 t0 (fun y w5 W5 y0 y1 => bad y w5 r (ZE_g hz rfl (ZE_g hz2 rfl (ZE_b hz3 hf))) hf W5 y0 y1))) (fun w4 s4 hz3 es3 F4 Z4 => ?_)
        refine ct_sum (c := 3) Z4 ho (by decide) (by rw [if_neg (by decide)]; decide) (fun w5 r hz4 hf W5 => cw_tl W5 f0 t0 (fun y w6 W6 y0 y1 => bad y w6 r (ZE_g hz rfl (ZE_g hz2 rfl (ZE_g hz3 rfl (ZE_b hz4 hf)))) hf W6 y0 y1)) (fun w5 s5 hz4 ea4 ek4 zc4 F5 Z5 => ?_)
        have pre := zg_pre Z4 hz4
        refine ct_tl (k := k) Z5 kS ha ?_ (cs_1 kS k23 (fun c hc => ?_)) f0 t0 (fun r hr => ZE_g hz rfl (ZE_g hz2 rfl (ZE_g hz3 rfl (ZE_g hz4 rfl hr)))) bad good
        · rw [ea4, es3]
          exact arg
        · rw [ek4] at hc
          rcases List.mem_append.mp hc with q | q
          · rw [es3] at q
            have zq := z1 c q
            have lq := Z3.2.2.2.2.2.2.2.2 c q
            rw [es3] at pre
            exact zc_pre zq pre lq
          · rw [List.mem_singleton.mp q]
            exact zc4
    · have hz2 : ZI f n (lkn nm) op 2 (-1) s2 (zer (wrd f n x3.2.2.2.1).2.1) := ZI_2 ⟨x3, hx3, by rw [if_pos g3, if_neg (fun q => ne (by rw [un, ← su, ey, q, if_pos (by decide)]))]⟩
      refine fl_g Z3.1 (fun w4 F4 X4 => ?_)
      have W4 := zw_of X4
      have t0 := bd_108_1 W4.1.1
      exact ⟨W4.1.2.2.1, fun _ => cw_tl W4 f0 t0 (fun y w5 W5 y0 y1 => bad y w5 _ (ZE_g hz rfl (ZE_b hz2 rfl)) rfl W5 y0 y1), fun _ => cw_tk W4 (cw_sum W4 (by decide) (cw_tl W4 f0 t0 (fun y w5 W5 y0 y1 => bad y w5 _ (ZE_g hz rfl (ZE_b hz2 rfl)) rfl W5 y0 y1)))⟩
/-! the class reads ask, do, stop, hold, act -/
theorem wrd_t {f : Int → Int} {n p : Int} (h : (wrd f n p).1 = 31) (hp : (wrd f n p).2.2.2.2.2 = false) : ∃ v : Int, (wrd f n p).2.2.2.2.1 = v * 1000 := by
  have e : wrd f n p = wrq f n (skp f n 4001 p) := rfl
  rw [e] at h hp ⊢
  generalize skp f n 4001 p = q at *
  unfold wrq at h hp ⊢
  by_cases c : n ≤ q
  · rw [if_pos c] at h
    exact absurd (show (32 : Int) = 31 from h) (by decide)
  · rw [if_neg c] at h hp ⊢
    by_cases d : lt1 (f q) = true
    · rw [if_pos d] at h
      unfold wrL at h
      by_cases b : bd1 (f (q + ((lts f 12 q).length : Int))) = true
      · rw [if_pos b] at h
        exact absurd (show (33 : Int) = 31 from h) (by decide)
      · rw [if_neg b] at h
        have h' : kwd (lts f 12 q) = 31 := h
        have := kwd_b (lts f 12 q)
        omega
    · rw [if_neg d] at h hp ⊢
      by_cases g : dg1 (f q) = true
      · rw [if_pos g] at h hp ⊢
        unfold wrN at h hp ⊢
        by_cases b : bd1 (f (dgn f q)) = true
        · rw [if_pos b] at h
          exact absurd (show (33 : Int) = 31 from h) (by decide)
        · rw [if_neg b] at hp ⊢
          have hp' : dgp f q = false := hp
          refine ⟨vlu 0 (dgl f 9 q), ?_⟩
          show dgz f q = vlu 0 (dgl f 9 q) * 1000
          unfold dgz dgf
          rw [hp', if_neg (by decide)]
          rfl
      · rw [if_neg g] at h
        by_cases k : mk1 (f q) = true
        · rw [if_pos k] at h
          have t := mk1_t.mp k
          have h' : f q = 31 := h
          omega
        · rw [if_neg k] at h
          exact absurd (show (33 : Int) = 31 from h) (by decide)
theorem cw_87 {w : MW} {f : Int → Int} {n : Int} {nm : List Nm} {op : Nat} {e : Int} {a b : Int32} {Q : Int32 → MW → Prop} (h : ZW w f n nm op e) (hb : a.toInt = 23 → b.toInt < 0 ∨ ∃ (i : Nat) (x : Nm), b = nI i ∧ nm[i]? = some x ∧ x.2.1 = 10) (hQ : ∀ (y : Int32) (w' : MW), ZW w' f n nm op e → 0 ≤ y.toInt → y.toInt < 301 → Q y w') : q_Rd_readShort_87 a b w Q := by
  refine Eq.mpr (q_Rd_readShort_87.eq_1 _ _ _ _) (cw_tk h (cw_mk h (fun r5 w5 r0 r1 W5 => ⟨fun _ => hQ r5 w5 W5 r0 r1, fun y23 => ⟨fun _ => hQ r5 w5 W5 r0 r1, fun b0 => ?_⟩⟩)))
  rcases hb (Classical.not_not.mp y23) with q | ⟨i, x, eb, hx, x10⟩
  · exact absurd q b0
  · have NM := W5.1.2.2.2.2.2.2.1
    have n4 := NM.2.1
    have il := (List.getElem?_eq_some_iff.mp hx).1
    have ti : (nI i).toInt = (i : Int) := nI_toInt (by omega)
    have tn : (nI i).toInt.toNat = i := by omega
    have t := NM.2.2 i x hx
    have t1 := t.2.2.2.1
    have t2 := t.2.2.2.2.2.1 x10
    have b9 := bd_119 W5.1.1 i
    rw [eb, tn]
    have go : ∀ r11 : Int32, ((0 ≤ r5.toInt ∧ r5.toInt < 301) ∧ ((w5.2.2 87 1 = some 108) ∧ ((0 ≤ (nI i).toInt ∧ (nI i).toInt < 40) ∧ ((0 ≤ (w5.1 119 i).toInt ∧ (w5.1 119 i).toInt < 301) ∧ ((0 ≤ r5.toInt ∧ r5.toInt < 301) ∧ (Q r5 (sI (sI w5 88 r5.toInt.toNat r11) 89 r5.toInt.toNat (w5.1 89 ((w5.1 119 i).toInt.toNat))))))))) := fun r11 => by
      have F : FR [(88, none), (89, none)] w5 (sI (sI w5 88 r5.toInt.toNat r11) 89 r5.toInt.toNat (w5.1 89 ((w5.1 119 i).toInt.toNat))) := FR.I (FR.I (FR.refl _ w5) rfl) rfl
      exact ⟨⟨r0, r1⟩, W5.1.2.2.1, ⟨by omega, by omega⟩, ⟨by omega, by omega⟩, ⟨r0, r1⟩, hQ r5 _ (zw_st W5 F (wbd_89 (wbd_88 W5.1.1 _) _) rfl) r0 r1⟩
    exact ⟨W5.1.2.2.1, ⟨by omega, by omega⟩, ⟨by omega, by omega⟩, Eq.mpr (p_Ma_min.eq_1 _ _ _ _) ⟨fun _ => go _, fun _ => go _⟩⟩
/-- behind the word, a semicolon and the node: not for do -/
theorem ck_87 {oq : Int} {w : MW} {f : Int → Int} {n k : Int} {nm : List Nm} {op jj : Nat} {L : List (Int × Int)} {s1 s : ZS} {a b : Int32} {Q : Int32 → MW → Prop} (hZ : ZG w f n oq nm op jj s) (hk : isS k = true) (k23 : ¬ k = 23) (ha : a.toInt = k) (hb : b.toInt = s.2.2.2.2.1) (h0 : s.2.2.2.1 = []) (H : ∀ r, ZE f n (lkn nm) op [(0, 59)] s r → ZE f n (lkn nm) op L s1 r) (bad : CBd f n nm op L s1 Q) (good : CGd f n oq nm op jj k L s1 Q) : q_Rd_readShort_87 a b w Q := by
  have q := isS_t.mp hk
  have n23 : ¬ a.toInt = 23 := by omega
  refine Eq.mpr (q_Rd_readShort_87.eq_1 _ _ _ _) (ct_tk (c := 59) hZ (by decide) (fun w' r hz hf W => cw_mk W (fun r6 w6 r0 r1 W6 => ⟨fun _ => bad _ w6 r (H r (ZE_b hz hf)) hf W6 r0 r1, fun z => absurd n23 z⟩)) (fun w' s' hz es F Z => ?_))
  have l3 := Z.1.2.2.2.2.2.1
  have hE := H _ (ZE_g hz rfl (ZE_n _ _ _ _ _))
  have hc : cs1 (csl s'.2.1 []) (k, s'.2.2.2.2.1, s'.2.2.2.2.2.2, s'.2.2.2.1) = (1, 0) := cs_1 hk k23 (fun c hc => by
    rw [es] at hc
    have hc' : c ∈ s.2.2.2.1 := hc
    rw [h0] at hc'
    cases hc')
  refine cm_mk (d := (k, s'.2.2.2.2.1, s'.2.2.2.2.2.2, s'.2.2.2.1)) Z ha ?_ (show ¬ k = 31 by omega) (fun n3 w2 W2 => ⟨fun _ => good _ w' w2 s' hE Z (Or.inl ⟨n3, W2, by decide, by decide⟩), fun z => absurd n23 z⟩) (fun n3 w2 X2 e8 e0 e88 e89 => ⟨fun _ => good _ w' w2 s' hE Z (Or.inr ⟨n3, nI_toInt (by omega), X2, e8, e0, by rw [hc]; exact e88, by rw [hc]; exact e89⟩), fun z => absurd n23 z⟩)
  rw [es]
  exact hb
/-- do -/
theorem ck_do {oq : Int} {w : MW} {f : Int → Int} {n : Int} {nm : List Nm} {op jj : Nat} {s1 : ZS} {a : Int32} {Q : Int32 → MW → Prop} (hZ : ZG w f n oq nm op jj s1) (ha : a.toInt = 23) (h0 : s1.2.2.2.1 = []) (bad : CBd f n nm op [(1, 10), (0, 59)] s1 Q) (good : CGd f n oq nm op jj 23 [(1, 10), (0, 59)] s1 Q) : p_Rd_takeName w 10 (fun r27 w27 => (q_Rd_readShort_87 a r27 w27 Q)) := by
  refine ct_nm (c := 10) hZ (by decide) (fun w1 r hz hf W => cw_87 W (fun _ => Or.inl (by decide)) (fun y w2 W2 y0 y1 => bad y w2 r (ZE_b hz hf) hf W2 y0 y1)) (fun w1 r i x hx xc el hz hf il W => cw_87 W (fun _ => Or.inr ⟨i, x, rfl, hx, xc⟩) (fun y w2 W2 y0 y1 => bad y w2 r (ZE_b hz hf) hf W2 y0 y1)) (fun w1 s2 i x hx hz es xc el Z1 => ?_)
  refine Eq.mpr (q_Rd_readShort_87.eq_1 _ _ _ _) (ct_tk (c := 59) Z1 (by decide) (fun w2 r hz2 hf W2 => ?_) (fun w2 s3 hz2 es3 F2 Z2 => ?_))
  · have t := cw_87 (a := a) (b := nI i) (Q := Q) W2 (fun _ => Or.inr ⟨i, x, rfl, hx, xc⟩) (fun y w3 W3 y0 y1 => bad y w3 r (ZE_g hz rfl (ZE_b hz2 hf)) hf W3 y0 y1)
    rw [q_Rd_readShort_87.eq_1, p_Rd_take.eq_1] at t
    have e0 := W2.2.2.1
    have ew := W2.2.1
    have u := t.1 (by omega)
    rw [p_Rd_fail.eq_1] at u
    exact u.1 (by omega)
  · have l3 := Z2.1.2.2.2.2.2.1
    have hE : ZE f n (lkn nm) op [(1, 10), (0, 59)] s1 (zok s3) := ZE_g hz rfl (ZE_g hz2 rfl (ZE_n _ _ _ _ _))
    have NM := Z2.1.1.2.2.2.2.2.2.1
    have n4 := NM.2.1
    have il := (List.getElem?_eq_some_iff.mp hx).1
    have ti : (nI i).toInt = (i : Int) := nI_toInt (by omega)
    have tn : (nI i).toInt.toNat = i := by omega
    have arg : s3.2.2.2.2.1 = (i : Int) := by rw [es3, es]
    have blk : s3.2.2.2.2.2.2 = x.2.2.2 := by rw [es3, es]
    have LB := Z2.2.2.2.2.2.2.1 (wrd f n s1.1).2.2.2.1 (by rw [el]; show (0 : Int) ≤ (i : Int); omega) (by rw [el]; exact xc)
    have DB := Z2.2.2.2.2.2.2.2.1 (wrd f n s1.1).2.2.2.1 (by rw [el]; show (0 : Int) ≤ (i : Int); omega) (by rw [el]; exact xc)
    rw [el] at LB DB
    have LB' : 0 ≤ x.2.2.2 ∧ x.2.2.2 + 1 < (s3.2.1.length : Int) := LB
    obtain ⟨db, hdb, edb⟩ := DB
    have hdb' : s3.2.1[x.2.2.2.toNat]? = some db := hdb
    have sz := Z2.2.2.2.2.1 x.2.2.2.toNat db hdb' (by rw [edb]; decide)
    have cs : cs1 (csl s3.2.1 []) (23, s3.2.2.2.2.1, s3.2.2.2.2.2.2, s3.2.2.2.1) = (cap (1 + gC (csl s3.2.1 []) x.2.2.2.toNat), gD (csl s3.2.1 []) x.2.2.2.toNat) := by
      unfold cs1
      rw [if_pos rfl]
      show (cap (1 + gC (csl s3.2.1 []) s3.2.2.2.2.2.2.toNat), gD (csl s3.2.1 []) s3.2.2.2.2.2.2.toNat) = _
      rw [blk]
    refine cm_mk (d := (23, s3.2.2.2.2.1, s3.2.2.2.2.2.2, s3.2.2.2.1)) Z2 ha (by rw [ti, arg]) (show ¬ (23 : Int) = 31 by decide) (fun n3 w5 W5 => ⟨fun z => absurd ha z, fun _ => ⟨fun _ => good _ w2 w5 s3 hE Z2 (Or.inl ⟨n3, W5, by decide, by decide⟩), fun _ => ?_⟩⟩) (fun n3 w5 X5 e8 e0 e88 e89 => ⟨fun z => absurd ha z, fun _ => ⟨fun z => absurd z (by omega), fun _ => ?_⟩⟩)
    · have t := W5.1.2.2.2.2.2.2.1.2.2 i x hx
      have t1 := t.2.2.2.1
      have b9 := bd_119 W5.1.1 i
      have r3 : (nI 300).toInt = 300 := by decide
      rw [tn]
      have go : ∀ r11 : Int32, ((0 ≤ (nI 300).toInt ∧ (nI 300).toInt < 301) ∧ ((w5.2.2 87 1 = some 108) ∧ ((0 ≤ (nI i).toInt ∧ (nI i).toInt < 40) ∧ ((0 ≤ (w5.1 119 i).toInt ∧ (w5.1 119 i).toInt < 301) ∧ ((0 ≤ (nI 300).toInt ∧ (nI 300).toInt < 301) ∧ (Q (nI 300) (sI (sI w5 88 (nI 300).toInt.toNat r11) 89 (nI 300).toInt.toNat (w5.1 89 ((w5.1 119 i).toInt.toNat))))))))) := fun r11 => by
        have F : FR [(88, none), (89, none)] w5 (sI (sI w5 88 (nI 300).toInt.toNat r11) 89 (nI 300).toInt.toNat (w5.1 89 ((w5.1 119 i).toInt.toNat))) := FR.I (FR.I (FR.refl _ w5) rfl) rfl
        exact ⟨⟨by omega, by omega⟩, W5.1.2.2.1, ⟨by omega, by omega⟩, ⟨by omega, by omega⟩, ⟨by omega, by omega⟩, good _ w2 _ s3 hE Z2 (Or.inl ⟨n3, zw_st W5 F (wbd_89 (wbd_88 W5.1.1 _) _) rfl, by omega, by omega⟩)⟩
      exact ⟨W5.1.2.2.1, ⟨by omega, by omega⟩, ⟨by omega, by omega⟩, Eq.mpr (p_Ma_min.eq_1 _ _ _ _) ⟨fun _ => go _, fun _ => go _⟩⟩
    · have t := X5.1.2.2.2.2.2.2.1.2.2 i x hx
      have t1 := t.2.2.2.1
      have tl : (nI s3.2.1.length).toInt = (s3.2.1.length : Int) := nI_toInt (by omega)
      have tt : (nI s3.2.1.length).toInt.toNat = s3.2.1.length := by omega
      have bx : (w5.1 119 i).toInt.toNat = x.2.2.2.toNat := by omega
      have o8 := e8 x.2.2.2.toNat (by omega)
      have g8 : (w5.1 88 x.2.2.2.toNat).toInt = gC (csl s3.2.1 []) x.2.2.2.toNat := by rw [o8.1]; exact sz.1
      have g9 : (w5.1 89 x.2.2.2.toNat).toInt = gD (csl s3.2.1 []) x.2.2.2.toNat := by rw [o8.2]; exact sz.2
      rw [tn, tt, bx]
      have cb := gC_cap (ns := s3.2.1) x.2.2.2.toNat
      have sa := ti_add2 i_1 g8 (by omega) (by omega)
      have go : ∀ r11 : Int32, r11.toInt = cap (1 + gC (csl s3.2.1 []) x.2.2.2.toNat) → ((0 ≤ (nI s3.2.1.length).toInt ∧ (nI s3.2.1.length).toInt < 301) ∧ ((w5.2.2 87 1 = some 108) ∧ ((0 ≤ (nI i).toInt ∧ (nI i).toInt < 40) ∧ ((0 ≤ (w5.1 119 i).toInt ∧ (w5.1 119 i).toInt < 301) ∧ ((0 ≤ (nI s3.2.1.length).toInt ∧ (nI s3.2.1.length).toInt < 301) ∧ (Q (nI s3.2.1.length) (sI (sI w5 88 s3.2.1.length r11) 89 s3.2.1.length (w5.1 89 ((w5.1 119 i).toInt.toNat))))))))) := fun r11 er => by
        rw [bx]
        have F : FR [(88, none), (89, none)] w5 (sI (sI w5 88 s3.2.1.length r11) 89 s3.2.1.length (w5.1 89 x.2.2.2.toNat)) := FR.I (FR.I (FR.refl _ w5) rfl) rfl
        refine ⟨⟨by omega, by omega⟩, X5.1.2.2.1, ⟨by omega, by omega⟩, ⟨by omega, by omega⟩, ⟨by omega, by omega⟩, good _ w2 _ s3 hE Z2 (Or.inr ⟨n3, tl, xs_st X5 F (wbd_89 (wbd_88 X5.1.1 _) _) rfl, fun k hk => ?_, ?_, ?_, ?_⟩)⟩
        · rw [sI_oth _ _ _ _ _ _ (by decide), sI_ne _ _ _ _ _ (by omega), sI_ne _ _ _ _ _ (by omega), sI_oth _ _ _ _ _ _ (by decide)]
          exact e8 k hk
        · exact ⟨(F 108 0 rfl).1.trans e0.1, (F 108 2 rfl).1.trans e0.2⟩
        · rw [sI_oth _ _ _ _ _ _ (by decide), sI_same, cs]
          exact er
        · rw [sI_same, cs]
          exact g9
      refine ⟨X5.1.2.2.1, ⟨by omega, by omega⟩, ⟨by omega, by omega⟩, Eq.mpr (p_Ma_min.eq_1 _ _ _ _) ⟨fun gt => go _ ?_, fun le => go _ ?_⟩⟩
      · rw [show (501 : Int32).toInt = 501 by decide, sa] at gt
        unfold cap
        rw [if_neg (by omega)]
        decide
      · rw [show (501 : Int32).toInt = 501 by decide, sa] at le
        rw [sa]
        unfold cap
        by_cases q : 1 + gC (csl s3.2.1 []) x.2.2.2.toNat ≤ 500
        · rw [if_pos q]
        · rw [if_neg q]
          omega
/-! the class reads acts and blocks -/
theorem ck_act {oq : Int} {w : MW} {f : Int → Int} {n : Int} {nm : List Nm} {op jj : Nat} {s1 : ZS} {a : Int32} {Q : Int32 → MW → Prop} (hZ : ZG w f n oq nm op jj s1) (ha : a.toInt = 26) (h0 : s1.2.2.2.1 = []) (bad : CBd f n nm op [(5, 0), (0, 59)] s1 Q) (good : CGd f n oq nm op jj 26 [(5, 0), (0, 59)] s1 Q) : ((¬ (w.1 87 3).toInt = 31 → (p_Rd_fail w  (fun w18 => (p_Rd_take w18 31 (fun w19 => (q_Rd_readShort_87 a (Int64.toInt32 ((w18.2.1 87 6) / (1000 : Int64))) w19 Q)))))) ∧ (¬ (¬ (w.1 87 3).toInt = 31) → ((¬ (w.1 87 7).toInt = 0 → (p_Rd_fail w  (fun w21 => (p_Rd_take w21 31 (fun w22 => (q_Rd_readShort_87 a (Int64.toInt32 ((w21.2.1 87 6) / (1000 : Int64))) w22 Q)))))) ∧ (¬ (¬ (w.1 87 7).toInt = 0) → (((lg_cmp (w.2.1 87 6) (31000 : Int64)).toInt ≤ 0 → (p_Rd_take w 31 (fun w24 => (q_Rd_readShort_87 a (Int64.toInt32 ((w.2.1 87 6) / (1000 : Int64))) w24 Q)))) ∧ (¬ ((lg_cmp (w.2.1 87 6) (31000 : Int64)).toInt ≤ 0) → (p_Rd_fail w  (fun w25 => (p_Rd_take w25 31 (fun w26 => (q_Rd_readShort_87 a (Int64.toInt32 ((w25.2.1 87 6) / (1000 : Int64))) w26 Q))))))))))) := by
  have X := hZ.1
  have hw := X.2.2.2.1
  have c3 : (w.1 87 3).toInt = (wrd f n s1.1).1 := X.2.1.1
  have no : ¬ ((wrd f n s1.1).1 = 31 ∧ (wrd f n s1.1).2.2.2.2.2 = false ∧ (wrd f n s1.1).2.2.2.2.1 < 32000) → p_Rd_fail w (fun w18 => (p_Rd_take w18 31 (fun w19 => (q_Rd_readShort_87 a (Int64.toInt32 ((w18.2.1 87 6) / (1000 : Int64))) w19 Q)))) := fun q => fl_g X (fun w' F' X' => cw_tk (zw_of X') (cw_87 (zw_of X') (fun z => by omega) (fun y w2 W2 y0 y1 => bad y w2 (zer (wrd f n s1.1).2.1) (ZE_b (ZI_5 (by unfold zac; rw [if_neg q])) rfl) rfl W2 y0 y1)))
  rw [c3]
  refine ⟨fun z => no (fun q => z q.1), fun z => ?_⟩
  have k31 := Classical.not_not.mp z
  have T := X.2.1.2.2.2.2 k31
  have vb := wrd_v (f := f) (n := n) (p := s1.1)
  rw [T.2]
  refine ⟨fun z2 => no (fun q => z2 (by rw [if_neg (by rw [q.2.1]; decide)])), fun z2 => ?_⟩
  have np : (wrd f n s1.1).2.2.2.2.2 = false := by
    have z3 := Classical.not_not.mp z2
    by_cases q : (wrd f n s1.1).2.2.2.2.2 = true
    · rw [if_pos q] at z3
      exact absurd z3 (by decide)
    · exact Bool.eq_false_iff.mpr q
  obtain ⟨v, ev⟩ := wrd_t k31 np
  have cm := nb_cmp (w.2.1 87 6) (31000 : Int64)
  rw [(by decide : ((31000 : Int64)).toInt = 31000), T.1] at cm
  refine ⟨fun c => ?_, fun c => no (fun q => by have := q.2.2; omega)⟩
  have yes : (wrd f n s1.1).1 = 31 ∧ (wrd f n s1.1).2.2.2.2.2 = false ∧ (wrd f n s1.1).2.2.2.2.1 < 32000 := ⟨k31, np, by omega⟩
  have ed := nb_ldiv (show 0 ≤ (w.2.1 87 6).toInt by rw [T.1]; exact vb.1) (by decide : ((1000 : Int64)).toInt = 1000) (by omega)
  have en := nb_l2i (x := (w.2.1 87 6) / (1000 : Int64)) (by rw [ed, T.1]; omega) (by rw [ed, T.1]; omega)
  refine Eq.mpr (p_Rd_take.eq_1 _ _ _) ⟨fun z => absurd z (by omega), fun _ => ⟨fun _ => ?_, fun ne => absurd (show (w.1 87 3).toInt = (31 : Int32).toInt by rw [c3, k31]; decide) ne⟩⟩
  refine nx_g X.1 hw X.2.1.2.2.1 X.2.2.2.2.1 X.2.2.2.2.2.1 (fun ok w' F' X' => ?_) (fun bd w' F' X' => cw_87 (zw_of X') (fun z => by omega) (fun y w2 W2 y0 y1 => bad y w2 (zer (wrd f n (wrd f n s1.1).2.2.1).2.1) (ZE_b (ZI_5 (by unfold zac zgo; rw [if_pos yes, if_pos bd])) rfl) rfl W2 y0 y1))
  have hz : ZI f n (lkn nm) op 5 0 s1 (zok ((wrd f n s1.1).2.2.1, s1.2.1, s1.2.2.1, s1.2.2.2.1, (wrd f n s1.1).2.2.2.2.1 / 1000, s1.2.2.2.2.2)) := ZI_5 (by unfold zac zgo; rw [if_pos yes, if_neg ok])
  have Z := zg_x hZ X' (fr_89 F' rfl _) (s0_fr F' rfl) ((wrd f n s1.1).2.2.2.2.1 / 1000, s1.2.2.2.2.2)
  refine ck_87 (k := 26) Z (by decide) (by decide) ha ?_ h0 (fun r hr => ZE_g hz rfl hr) bad good
  show _ = (wrd f n s1.1).2.2.2.2.1 / 1000
  rw [en, ed, T.1]
/-- readShort -/
theorem ck_short {oq : Int} {w : MW} {f : Int → Int} {n k : Int} {nm : List Nm} {op jj : Nat} {s1 : ZS} {a : Int32} {Q : Int32 → MW → Prop} (hZ : ZG w f n oq nm op jj s1) (hk : 22 ≤ k ∧ k ≤ 26) (ha : a.toInt = k) (h0 : s1.2.2.2.1 = []) (hA : s1.2.2.2.2 = (0, 0, 0)) (bad : CBd f n nm op (its k) s1 Q) (good : CGd f n oq nm op jj k (its k) s1 Q) : p_Rd_readShort w a Q := by
  have kS : isS k = true := isS_t.mpr (by omega)
  refine Eq.mpr (p_Rd_readShort.eq_1 _ _ _) ⟨fun n22 => ⟨fun n23 => ⟨fun n26 => ?_, fun y26 => ?_⟩, fun y23 => ?_⟩, fun y22 => ?_⟩
  · have el : its k = [(0, 59)] := by
      unfold its
      rw [if_neg (by omega), if_neg (by omega), if_neg (by omega), if_neg (by omega), if_neg (by omega), if_neg (by omega), if_neg (by omega), if_neg (by omega), if_neg (by omega), if_neg (by omega), if_neg (by omega)]
    rw [el] at bad good
    exact ck_87 (k := k) hZ kS (by omega) ha (by rw [hA]; decide) h0 (fun r hr => hr) bad good
  · have e : k = 26 := by
      have := Classical.not_not.mp y26
      omega
    rw [e] at bad good
    exact ck_act hZ (Classical.not_not.mp y26) h0 bad good
  · have e : k = 23 := by
      have := Classical.not_not.mp y23
      omega
    rw [e] at bad good
    exact ck_do hZ (Classical.not_not.mp y23) h0 bad good
  · have e : k = 22 := by
      have := Classical.not_not.mp y22
      omega
    rw [e] at bad good
    refine ct_nm (c := 8) hZ (by decide) (fun w1 r hz hf W => cw_87 W (fun z => by omega) (fun y w2 W2 y0 y1 => bad y w2 r (ZE_b hz hf) hf W2 y0 y1)) (fun w1 r i x hx xc el hz hf il W => cw_87 W (fun z => by omega) (fun y w2 W2 y0 y1 => bad y w2 r (ZE_b hz hf) hf W2 y0 y1)) (fun w1 s2 i x hx hz es xc el Z1 => ?_)
    have n4 := Z1.1.1.2.2.2.2.2.2.1.2.1
    have il := (List.getElem?_eq_some_iff.mp hx).1
    refine ck_87 (k := 22) Z1 (by decide) (by decide) (Classical.not_not.mp y22) ?_ ?_ (fun r hr => ZE_g hz rfl hr) bad good
    · rw [es]
      exact nI_toInt (by omega)
    · rw [es]
      exact h0
theorem zw_op {w : MW} {f : Int → Int} {n : Int} {nm : List Nm} {op op' : Nat} {e : Int} {v : Int32} (h : ZW w f n nm op e) (hv : v.toInt = (op' : Int)) (o2 : op' ≤ 20) : ZW (sI w 87 8 v) f n nm op' e := xw_op h hv o2
theorem smC_1 (acc : List (Int × Int)) (l : List Nat) (a : Int) (k : Nat) : smC acc a (l ++ [k]) = smC acc a l + gC acc k := by
  rw [smC_a]
  rfl
theorem mxD_a (acc : List (Int × Int)) : ∀ (l m : List Nat) (a : Int), mxD acc a (l ++ m) = mxD acc (mxD acc a l) m := by
  intro l
  induction l with
  | nil => exact fun _ _ => rfl
  | cons k l ih => exact fun m a => ih m _
/-- sums and depths of kids, over new nodes -/
theorem kid_pre {ns ms : List Nod} {l : List Nat} (hp : PRE ns ms) (hl : ∀ c ∈ l, c < ns.length) (a : Int) : smC (csl ms []) a l = smC (csl ns []) a l ∧ mxD (csl ms []) a l = mxD (csl ns []) a l := ⟨smC_g l a (fun c hc => (gc_pre hp (hl c hc)).1), mxD_g l a (fun c hc => (gc_pre hp (hl c hc)).2)⟩
theorem mxD_r {lk : List Int → Int × Int × Int × Int} {ns : List Nod} {l : List Nat} (h : NWf lk ns) (hl : ∀ c ∈ l, c < ns.length) : 0 ≤ mxD (csl ns []) 0 l ∧ mxD (csl ns []) 0 l ≤ (ns.length : Int) := mxD_b l 0 (Int.le_refl _) (by omega) (fun c hc => by
  have a := hl c hc
  have := (gD_b h c a).2
  omega)
theorem min_x {w : MW} {a : Int32} {A B : Int} {Q : Int32 → MW → Prop} (ha : a.toInt = A) (hB : cap A = B) (hQ : ∀ r : Int32, r.toInt = B → Q r w) : p_Ma_min w a 501 Q := by
  refine Eq.mpr (p_Ma_min.eq_1 _ _ _ _) ⟨fun gt => hQ _ ?_, fun le => hQ _ ?_⟩
  · rw [show (501 : Int32).toInt = 501 by decide, ha] at gt
    rw [← hB]
    unfold cap
    rw [if_neg (by omega)]
    decide
  · rw [show (501 : Int32).toInt = 501 by decide, ha] at le
    rw [← hB, ha]
    unfold cap
    by_cases q : A ≤ 500
    · rw [if_pos q]
    · rw [if_neg q]
      omega
theorem max_x {w : MW} {a b : Int32} {A B : Int} {Q : Int32 → MW → Prop} (ha : a.toInt = A) (hb : b.toInt = B) (hQ : ∀ r : Int32, r.toInt = (if B ≤ A then A else B) → Q r w) : p_Ma_max w a b Q := by
  refine Eq.mpr (p_Ma_max.eq_1 _ _ _ _) ⟨fun lt => hQ _ ?_, fun ge => hQ _ ?_⟩
  · rw [if_neg (by omega)]
    exact hb
  · rw [if_pos (by omega)]
    exact ha
theorem min_w {w : MW} {a b : Int32} {Q : Int32 → MW → Prop} (hQ : ∀ r : Int32, Q r w) : p_Ma_min w a b Q := Eq.mpr (p_Ma_min.eq_1 _ _ _ _) ⟨fun _ => hQ _, fun _ => hQ _⟩
theorem max_w {w : MW} {a b : Int32} {Q : Int32 → MW → Prop} (hQ : ∀ r : Int32, Q r w) : p_Ma_max w a b Q := Eq.mpr (p_Ma_max.eq_1 _ _ _ _) ⟨fun _ => hQ _, fun _ => hQ _⟩
/-- the statements of a block -/
theorem cb_57 {oq : Int} {B P S : MW → (Int32 → MW → Prop) → Prop} {G : MW → Int32 → (Int32 → MW → Prop) → Prop} {f : Int → Int} {n : Int} {nm : List Nm} {op j : Nat} {E : Int32 → Int32 → Int32 → MW → Prop} {Q : Int32 → MW → Prop} {R : ZR → Prop} (hS : HCm S 9 op j f n oq nm) (hb : ∀ (x z u : Int32) (w' : MW) (r : ZR), R r → r.1 = false → ZW w' f n nm op r.2.1 → -1 ≤ x.toInt → x.toInt ≤ 300 → E x z u w') (hE : ∀ (x z u : Int32) (w' : MW) (s' : ZS), R (zok s') → (wrd f n s'.1).1 = 125 → ZG w' f n oq nm op j s' → -1 ≤ x.toInt → x.toInt ≤ 300 → z.toInt = cap (smC (csl s'.2.1 []) 1 s'.2.2.2.1) → u.toInt = mxD (csl s'.2.1 []) 0 s'.2.2.2.1 → E x z u w') (m : Nat) : ∀ (x y z u i : Int32) (w : MW) (s : ZS), ZG w f n oq nm op j s → -1 ≤ x.toInt → x.toInt ≤ 300 → -1 ≤ y.toInt → y.toInt ≤ 300 → z.toInt = cap (smC (csl s.2.1 []) 1 s.2.2.2.1) → u.toInt = mxD (csl s.2.1 []) 0 s.2.2.2.1 → 0 ≤ i.toInt → i.toInt ≤ (s.2.1.length : Int) → (∀ r, ZI f n (lkn nm) op 8 0 s r → (r.1 = false ∨ ∃ s', r = zok s') → R r) → 302 - s.2.1.length < m → q_Rd_readBlock_57 B G P S E Q m x y z u i w := by
  induction m with
  | zero => intros; omega
  | succ m ih =>
    intro x y z u i w s hZ x0 x1 y0 y1 hz hu i0 i1 hR hm
    have X := hZ.1
    have l3 := X.2.2.2.2.2.1
    have hw := X.2.2.2.1
    have c3 : (w.1 87 3).toInt = (wrd f n s.1).1 := X.2.1.1
    rw [q_Rd_readBlock_57.eq_2, c3]
    refine ⟨fun q => by omega, fun _ => ⟨fun q => by omega, fun _ => ⟨fun k => hE x z u w s (hR _ (ZI_8n k) (Or.inr ⟨s, rfl⟩)) k hZ x0 x1 hz hu, fun k => ?_⟩⟩⟩
    refine hS s w _ hZ (fun r10 w10 r hr o => ?_)
    rcases o with ⟨s', er, Z', ey, et, e88, e89, nn⟩ | ⟨g, W, r0, r1⟩
    · rw [er] at hr
      have l4 := Z'.1.2.2.2.2.2.1
      have pre := zg_pre hZ hr
      have yt : r10.toInt.toNat = s'.2.1.length - 1 := by omega
      have kk : s'.2.2.2.1 = s.2.2.2.1 ++ [s'.2.1.length - 1] := by rw [et]
      have kp := kid_pre pre (l := s.2.2.2.1) hZ.2.2.2.2.2.2.2.2
      have gb := gC_cap (ns := s'.2.1) (s'.2.1.length - 1)
      have s0 := smC_0 (acc := csl s.2.1 []) (fun i => (gC_cap i).1) s.2.2.2.1 1 (by decide)
      have cb := cap_b s0
      have sa := ti_add2 hz e88 (by omega) (by omega)
      have ii := ti_add2 (Eq.refl i.toInt) i_1 (by omega) (by omega)
      refine ⟨⟨by omega, by omega⟩, min_x (B := cap (smC (csl s'.2.1 []) 1 s'.2.2.2.1)) sa ?_ (fun r12 e12 => ⟨⟨by omega, by omega⟩, max_x hu e89 (fun r14 e14 => ?_)⟩)⟩
      · rw [kk, smC_1, (kp 1).1, cap_i gb.1]
      · have u2 : r14.toInt = mxD (csl s'.2.1 []) 0 s'.2.2.2.1 := by
          rw [kk, mxD_a, (kp 0).2]
          exact e14
        have RR : ∀ r, ZI f n (lkn nm) op 8 0 s' r → (r.1 = false ∨ ∃ s2, r = zok s2) → R r := fun r h8 ho => hR r (ZI_8 k (by
          rcases ho with hf | ⟨s2, e2⟩
          · exact ZE_g hr rfl (ZE_b h8 hf)
          · rw [e2] at h8 ⊢
            exact ZE_g hr rfl (ZE_g h8 rfl (ZE_n _ _ _ _ _)))) ho
        refine ⟨fun b0 => ⟨Z'.1.1.2.2.1, ⟨b0, by omega⟩, ?_⟩, fun b0 => ih r10 r10 r12 r14 _ w10 s' Z' (by omega) (by omega) (by omega) (by omega) e12 u2 (by omega) (by omega) RR (by omega)⟩
        have F : FR [(114, none)] w10 (sI w10 114 y.toInt.toNat r10) := FR.I (FR.refl _ w10) rfl
        have X2 := xs_st Z'.1 F (wbd_114 Z'.1.1.1 _ (by omega) (by omega)) rfl
        have Z2 := zg_x Z' X2 (fr_89 F rfl _) (s0_fr F rfl) s'.2.2.2.2
        exact ih x r10 r12 r14 _ _ s' Z2 x0 x1 (by omega) (by omega) e12 u2 (by omega) (by omega) RR (by omega)
    · have hf := hR r (ZI_8 k (ZE_b hr g)) (Or.inl g)
      have e0 := W.2.2.1
      have out : ∀ (x' y' z' u' i' : Int32) (w' : MW), ZW w' f n nm op r.2.1 → -1 ≤ x'.toInt → x'.toInt ≤ 300 → q_Rd_readBlock_57 B G P S E Q m x' y' z' u' i' w' := fun x' y' z' u' i' w' W' a0 a1 => by
        have ew := W'.2.1
        cases m with
        | zero => omega
        | succ m =>
          rw [q_Rd_readBlock_57.eq_2]
          exact ⟨fun _ => hb x' z' u' w' r hf g W' a0 a1, fun _ => ⟨fun _ => hb x' z' u' w' r hf g W' a0 a1, fun q => absurd (show 0 ≤ (w'.1 87 9).toInt by omega) q⟩⟩
      refine ⟨⟨r0, r1⟩, min_w (fun r12 => ⟨⟨r0, r1⟩, max_w (fun r14 => ⟨fun b0 => ⟨W.1.2.2.1, ⟨b0, by omega⟩, ?_⟩, fun _ => out _ _ _ _ _ w10 W (by omega) (by omega)⟩)⟩)⟩
      have F : FR [(114, none)] w10 (sI w10 114 y.toInt.toNat r10) := FR.I (FR.refl _ w10) rfl
      exact out _ _ _ _ _ _ (zw_st W F (wbd_114 W.1.1 _ (by omega) (by omega)) rfl) x0 x1
/-- a node whose first, size and depth are stored -/
theorem cm_st {oq : Int} {w : MW} {f : Int → Int} {n : Int} {nm : List Nm} {op j : Nat} {t : ZS} {a b fi sz dp : Int32} {d : Nod} {Q : Int32 → MW → Prop} (h : ZG w f n oq nm op j t) (ha : a.toInt = d.1) (hb : b.toInt = d.2.1) (hd : ¬ d.1 = 31) (x0 : -1 ≤ fi.toInt) (x1 : fi.toInt ≤ 300) (hs : sz.toInt = (cs1 (csl t.2.1 []) d).1) (hp : dp.toInt = (cs1 (csl t.2.1 []) d).2) (hQ : ∀ (y : Int32) (w' : MW), MKo w w' f n nm op t d y → Q y w') : p_Rd_makeNode w a b (fun r20 w20 => ((w20.2.2 87 1 = some 108) ∧ ((0 ≤ r20.toInt ∧ r20.toInt < 301) ∧ ((0 ≤ r20.toInt ∧ r20.toInt < 301) ∧ ((0 ≤ r20.toInt ∧ r20.toInt < 301) ∧ (Q r20 (sI (sI (sI w20 113 r20.toInt.toNat fi) 88 r20.toInt.toNat sz) 89 r20.toInt.toNat dp))))))) := by
  have l3 := h.1.2.2.2.2.2.1
  refine cm_mk h ha hb hd (fun n3 w' W' => ?_) (fun n3 w' X' e8 e0 e88 e89 => ?_)
  · have F : FR [(88, none), (89, none), (113, none)] w' (sI (sI (sI w' 113 (nI 300).toInt.toNat fi) 88 (nI 300).toInt.toNat sz) 89 (nI 300).toInt.toNat dp) := FR.I (FR.I (FR.I (FR.refl _ w') rfl) rfl) rfl
    have r3 : (nI 300).toInt = 300 := by decide
    exact ⟨W'.1.2.2.1, ⟨by omega, by omega⟩, ⟨by omega, by omega⟩, ⟨by omega, by omega⟩, hQ _ _ (Or.inl ⟨n3, zw_st W' F (wbd_89 (wbd_88 (wbd_113 W'.1.1 _ x0 x1) _) _) rfl, by omega, by omega⟩)⟩
  · have tl : (nI t.2.1.length).toInt = (t.2.1.length : Int) := nI_toInt (by omega)
    have tt : (nI t.2.1.length).toInt.toNat = t.2.1.length := by omega
    rw [tt]
    have F : FR [(88, none), (89, none), (113, none)] w' (sI (sI (sI w' 113 t.2.1.length fi) 88 t.2.1.length sz) 89 t.2.1.length dp) := FR.I (FR.I (FR.I (FR.refl _ w') rfl) rfl) rfl
    refine ⟨X'.1.2.2.1, ⟨by omega, by omega⟩, ⟨by omega, by omega⟩, ⟨by omega, by omega⟩, hQ _ _ (Or.inr ⟨n3, tl, xs_st X' F (wbd_89 (wbd_88 (wbd_113 X'.1.1 _ x0 x1) _) _) rfl, fun k hk => ?_, ?_, ?_, ?_⟩)⟩
    · rw [sI_oth _ _ _ _ _ _ (by decide), sI_ne _ _ _ _ _ (by omega), sI_oth _ _ _ _ _ _ (by decide), sI_ne _ _ _ _ _ (by omega), sI_oth _ _ _ _ _ _ (by decide), sI_oth _ _ _ _ _ _ (by decide)]
      exact e8 k hk
    · exact ⟨(F 108 0 rfl).1.trans e0.1, (F 108 2 rfl).1.trans e0.2⟩
    · rw [sI_oth _ _ _ _ _ _ (by decide), sI_same]
      exact hs
    · rw [sI_same]
      exact hp
/-- a block -/
theorem c_blk {oq : Int} {B P S : MW → (Int32 → MW → Prop) → Prop} {G : MW → Int32 → (Int32 → MW → Prop) → Prop} {f : Int → Int} {n : Int} {nm : List Nm} {op j : Nat} (ho : op ≤ 20) (hS : op < 20 → HCm S 9 (op + 1) j f n oq nm) : HCm (pb_Rd_readBlock B G P S) 4 op j f n oq nm := by
  intro s w Q hZ hQ
  have X := hZ.1
  have hw := X.2.2.2.1
  have c3 : (w.1 87 3).toInt = (wrd f n s.1).1 := X.2.1.1
  have hop : (w.1 87 8).toInt = (op : Int) := X.1.2.2.2.2.2.2.2.1
  have nob : ¬ ((wrd f n s.1).1 = 123 ∧ op < 20) → p_Rd_fail w (fun w4 => (Q 0 w4)) := fun no => fl_g X (fun w' F' X' => hQ 0 w' (zer (wrd f n s.1).2.1) (ZI_4b no) (Or.inr ⟨rfl, zw_of X', by decide, by decide⟩))
  refine Eq.mpr (pb_Rd_readBlock.eq_1 _ _ _ _ _ _) ⟨fun z => absurd z (by omega), fun _ => ?_⟩
  rw [c3]
  refine ⟨fun z => nob (fun q => z q.1), fun z => ⟨fun o => ?_, fun o => nob (fun q => by omega)⟩⟩
  have k := Classical.not_not.mp z
  have o20 : op < 20 := by omega
  have s8 := ti_add2 hop i_1 (by omega) (by omega)
  have X1 := xs_op (op' := op + 1) (v := (w.1 87 8) + (1 : Int32)) X (by omega) (by omega)
  have F1 : FR [(87, some 8)] w (sI w 87 8 ((w.1 87 8) + (1 : Int32))) := FR.I (FR.refl _ w) rfl
  have Z1 : ZG (sI w 87 8 ((w.1 87 8) + (1 : Int32))) f n oq nm (op + 1) j (zin s) := by
    have t := zg_x hZ X1 (fr_89 F1 rfl _) (s0_fr F1 rfl) (0, 0, 0)
    exact ⟨t.1, t.2.1, t.2.2.1, t.2.2.2.1, t.2.2.2.2.1, t.2.2.2.2.2.1, t.2.2.2.2.2.2.1, t.2.2.2.2.2.2.2.1, fun c hc => (by cases hc)⟩
  have fu : (1000 : Nat) < FU := fu_lt (by decide)
  have wrong : ∀ (y : Int32) (w' : MW) (r1 : ZR), ZE f n (lkn nm) (op + 1) [(0, 123), (8, 0), (0, 125)] (zin s) r1 → r1.1 = false → ZW w' f n nm op r1.2.1 → 0 ≤ y.toInt → y.toInt < 301 → Q y w' := fun y w' r1 hE hf W y0 y1 => hQ y w' r1 (ZI_4 ⟨k, o20⟩ hE (by rw [if_neg (by rw [hf]; decide)])) (Or.inr ⟨hf, W, y0, y1⟩)
  have tailw : ∀ (x z u : Int32) (w8 : MW) (r1 : ZR), ZE f n (lkn nm) (op + 1) [(0, 123), (8, 0), (0, 125)] (zin s) r1 → r1.1 = false → ZW w8 f n nm (op + 1) r1.2.1 → -1 ≤ x.toInt → x.toInt ≤ 300 → p_Rd_makeNode (sI w8 87 8 ((w8.1 87 8) - (1 : Int32))) 35 0 (fun r20 w20 => ((w20.2.2 87 1 = some 108) ∧ ((0 ≤ r20.toInt ∧ r20.toInt < 301) ∧ ((0 ≤ r20.toInt ∧ r20.toInt < 301) ∧ ((0 ≤ r20.toInt ∧ r20.toInt < 301) ∧ (Q r20 (sI (sI (sI w20 113 r20.toInt.toNat x) 88 r20.toInt.toNat z) 89 r20.toInt.toNat (u + (1 : Int32))))))))) := fun x z u w8 r1 hE hf W x0 x1 => by
    have h8 : (w8.1 87 8).toInt = ((op + 1 : Nat) : Int) := W.1.2.2.2.2.2.2.2.1
    have s9 := ti_sub2 h8 i_1 (by omega) (by omega)
    refine cw_mk (zw_op (op' := op) W (by omega) ho) (fun r20 w20 r0 r2 W2 => ?_)
    have F : FR [(88, none), (89, none), (113, none)] w20 (sI (sI (sI w20 113 r20.toInt.toNat x) 88 r20.toInt.toNat z) 89 r20.toInt.toNat (u + (1 : Int32))) := FR.I (FR.I (FR.I (FR.refl _ w20) rfl) rfl) rfl
    exact ⟨W2.1.2.2.1, ⟨r0, r2⟩, ⟨r0, r2⟩, ⟨r0, r2⟩, wrong _ _ r1 hE hf (zw_st W2 F (wbd_89 (wbd_88 (wbd_113 W2.1.1 _ x0 x1) _) _) rfl) r0 r2⟩
  have loopw : ∀ (r1 : ZR) (w6 : MW), ZE f n (lkn nm) (op + 1) [(0, 123), (8, 0), (0, 125)] (zin s) r1 → r1.1 = false → ZW w6 f n nm (op + 1) r1.2.1 → ∀ m, 0 < m → ∀ (E : Int32 → Int32 → Int32 → MW → Prop), E (-1) 1 0 w6 → q_Rd_readBlock_57 B G P S E Q m (-1) (-1) 1 0 0 w6 := fun r1 w6 hE hf W m hm E e => by
    have e0 := W.2.2.1
    have ew := W.2.1
    cases m with
    | zero => omega
    | succ m =>
      rw [q_Rd_readBlock_57.eq_2]
      exact ⟨fun _ => e, fun _ => ⟨fun _ => e, fun q => absurd (show 0 ≤ (w6.1 87 9).toInt by omega) q⟩⟩
  refine ct_go Z1 k (fun w6 r hz hf W => loopw r w6 (ZE_b hz hf) hf W FU (by omega) _ (cw_tk W (tailw _ _ _ w6 r (ZE_b hz hf) hf W (by decide) (by decide)))) (fun w6 s6 hz es F6 Z6 => ?_)
  have k0 : s6.2.2.2.1 = [] := by
    rw [es]
    rfl
  have l6 := Z6.1.2.2.2.2.2.1
  refine cb_57 (R := fun r => ZI f n (lkn nm) (op + 1) 8 0 s6 r) (hS o20) (fun x z u w' r h8 hf W x0 x1 => cw_tk W (tailw x z u w' r (ZE_g hz rfl (ZE_b h8 hf)) hf W x0 x1)) (fun x z u w' s' h8 k125 Z' x0 x1 ez eu => ?_) FU (-1) (-1) 1 0 0 w6 s6 Z6 (by decide) (by decide) (by decide) (by decide) (by rw [k0]; show (1 : Int32).toInt = cap 1; decide) (by rw [k0]; show (0 : Int32).toInt = 0; decide) (by decide) (by rw [i_0]; omega) (fun r h8 _ => h8) (by omega)
  refine ct_tk (c := 125) Z' (by decide) (fun w8 r hz2 hf W => tailw x z u w8 r (ZE_g hz rfl (ZE_g h8 rfl (ZE_b hz2 hf))) hf W x0 x1) (fun w8 s8' hz2 es2 F8 Z8 => ?_)
  have inside : ZE f n (lkn nm) (op + 1) [(0, 123), (8, 0), (0, 125)] (zin s) (zok s8') := ZE_g hz rfl (ZE_g h8 rfl (ZE_g hz2 rfl (ZE_n _ _ _ _ _)))
  have h8' : (w8.1 87 8).toInt = ((op + 1 : Nat) : Int) := Z8.1.1.2.2.2.2.2.2.2.1
  have s9 := ti_sub2 h8' i_1 (by omega) (by omega)
  have F9 : FR [(87, some 8)] w8 (sI w8 87 8 ((w8.1 87 8) - (1 : Int32))) := FR.I (FR.refl _ w8) rfl
  have Z9 : ZG (sI w8 87 8 ((w8.1 87 8) - (1 : Int32))) f n oq nm op j s8' := by
    have t := zg_x Z8 (xs_op (op' := op) (v := (w8.1 87 8) - (1 : Int32)) Z8.1 (by omega) ho) (fr_89 F9 rfl _) (s0_fr F9 rfl) s8'.2.2.2.2
    exact t
  have mr := mxD_r Z8.2.2.2.2.2.1 Z8.2.2.2.2.2.2.2.2
  have e1 : s8'.2.1 = s'.2.1 := by rw [es2]
  have e2 : s8'.2.2.2.1 = s'.2.2.2.1 := by rw [es2]
  rw [e1, e2] at mr
  have l8 := Z8.1.2.2.2.2.2.1
  rw [e1] at l8
  have su := ti_add2 eu i_1 (by omega) (by omega)
  have cs : cs1 (csl s8'.2.1 []) (35, 0, 0, s8'.2.2.2.1) = (cap (smC (csl s'.2.1 []) 1 s'.2.2.2.1), mxD (csl s'.2.1 []) 0 s'.2.2.2.1 + 1) := by
    unfold cs1
    rw [if_neg (show ¬ (35 : Int) = 23 by decide)]
    show (cap (smC (csl s8'.2.1 []) (own 35) s8'.2.2.2.1), mxD (csl s8'.2.1 []) 0 s8'.2.2.2.1 + (if (35 : Int) = 35 then 1 else 0)) = _
    rw [e1, e2, if_pos rfl, show own 35 = 1 by decide]
  have pre : PRE s.2.1 s8'.2.1 := by
    have p1 := zg_pre Z6 h8
    rw [e1]
    have e6 : s6.2.1 = s.2.1 := by
      rw [es]
      rfl
    rw [e6] at p1
    exact p1
  refine cm_st (d := (35, 0, 0, s8'.2.2.2.1)) Z9 (show (35 : Int32).toInt = 35 by decide) (show (0 : Int32).toInt = 0 by decide) (show ¬ (35 : Int) = 31 by decide) x0 x1 (by rw [cs]; exact ez) (by rw [cs]; exact su) (fun y w' o => ?_)
  exact mko_cr (m := 0) (c := 4) (op' := op) (s := s) Z9 (by omega) (by decide) (by decide) o (fun c hc => Z8.2.2.2.2.2.2.2.2 c hc) (fun z => absurd (show (35 : Int) = 23 from z) (by decide)) hZ.2.2.2.2.2.2.2.2 pre (fun r er => ZI_4 ⟨k, o20⟩ inside (by
    show (if true = true then _ else _)
    rw [if_pos rfl]
    exact er)) hQ
