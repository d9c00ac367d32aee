/-! sums and tests: no statement among their nodes -/
def NOw (ns ms : List Nod) : Prop := ∀ (i : Nat) (d : Nod), ns.length ≤ i → ms[i]? = some d → own d.1 = 0
theorem now_r (ns : List Nod) : NOw ns ns := fun i d hi hd => by
  have := (List.getElem?_eq_some_iff.mp hd).1
  omega
theorem now_tr {a b c : List Nod} (h : NOw a b) (hp : PRE b c) (h2 : NOw b c) : NOw a c := fun i d hi hd => by
  by_cases q : i < b.length
  · obtain ⟨t, e⟩ := hp
    rw [e, List.getElem?_append_left q] at hd
    exact h i d hi hd
  · exact h2 i d (by omega) hd
theorem now_1 {ns : List Nod} {d : Nod} (h : own d.1 = 0) : NOw ns (ns ++ [d]) := fun i x hi hx => by
  rcases app_get hx with q | ⟨_, q2⟩
  · have := (List.getElem?_eq_some_iff.mp q).1
    omega
  · rw [q2]
    exact h
theorem xnd_ow {f : Int → Int} {n u p : Int} {ns : List Nod} {d : Nod} {r : XR} (e : r = xnd f n u p ns d) (g : r.1 = true) (h0 : own d.1 = 0) : NOw ns r.2.2.2.2 ∧ PRE ns r.2.2.2.2 := by
  unfold xnd at e
  by_cases c : ns.length = 300
  · rw [if_pos c] at e
    exact (xer_t e g).elim
  · rw [if_neg c] at e
    rw [e]
    exact ⟨now_1 h0, PRE.one ns d⟩
def XOr (X : XQ) : Prop := ∀ (m op : Nat) (u p : Int) (ns : List Nod) (r : XR), m ≤ 6 → X m op u p ns r → r.1 = true → NOw ns r.2.2.2.2 ∧ PRE ns r.2.2.2.2
theorem XP_own (f : Int → Int) (n : Int) (lk : List Int → Int × Int × Int × Int) : ∀ k, XOr (XP f n lk k) := by
  intro k
  induction k with
  | zero => exact fun _ _ _ _ _ _ _ h => False.elim h
  | succ k ih =>
    intro m op u p ns r m6 h g
    rw [XP_u] at h
    by_cases c : m = 3
    · rw [if_pos c] at h
      unfold xfa at h
      by_cases k31 : (wrd f n p).1 = 31
      · rw [if_pos k31] at h
        unfold xfn at h
        have h := xgo_t h g
        by_cases big : 999999999999 < (wrd f n p).2.2.2.2.1 * xmu (wrd f n (wrd f n p).2.2.1).1
        · rw [if_pos big] at h
          exact (xer_t h g).elim
        · rw [if_neg big] at h
          by_cases uu : 0 < xut (wrd f n (wrd f n p).2.2.1).1
          · rw [if_pos uu] at h
            exact xnd_ow (xgo_t h g) g (show own 31 = 0 by decide)
          · rw [if_neg uu] at h
            exact xnd_ow h g (show own 31 = 0 by decide)
      · rw [if_neg k31] at h
        by_cases k40 : (wrd f n p).1 = 40 ∨ (wrd f n p).1 = 45
        · rw [if_pos k40] at h
          unfold xfo at h
          by_cases o : 20 ≤ op
          · rw [if_pos o] at h
            exact (xer_t h g).elim
          · rw [if_neg o] at h
            have h := xgo_t h g
            by_cases k45 : (wrd f n p).1 = 45
            · rw [if_pos k45] at h
              obtain ⟨r1, a, b⟩ := h
              by_cases g1 : r1.1 = true
              · rw [if_pos g1] at b
                have t1 := ih 3 _ _ _ _ _ (by decide) a g1
                have t2 := xnd_ow b g (show own 34 = 0 by decide)
                exact ⟨now_tr t1.1 t2.2 t2.1, t1.2.tr t2.2⟩
              · rw [if_neg g1] at b
                rw [b] at g
                exact absurd g g1
            · rw [if_neg k45] at h
              obtain ⟨r1, a, b⟩ := h
              by_cases g1 : r1.1 = true
              · rw [if_pos g1] at b
                have t1 := ih 1 _ _ _ _ _ (by decide) a g1
                by_cases k41 : (wrd f n r1.2.2.2.1).1 = 41
                · rw [if_pos k41] at b
                  rw [xgo_t b g]
                  exact t1
                · rw [if_neg k41] at b
                  exact (xer_t b g).elim
              · rw [if_neg g1] at b
                rw [b] at g
                exact absurd g g1
        · rw [if_neg k40] at h
          by_cases k30 : (wrd f n p).1 = 30 ∧ 0 ≤ (lk (wrd f n p).2.2.2.1).1 ∧ ¬ (lk (wrd f n p).2.2.2.1).2.1 = 10
          · rw [if_pos k30] at h
            exact xnd_ow (xgo_t h g) g (show own 30 = 0 by decide)
          · rw [if_neg k30] at h
            exact (xer_t h g).elim
    · rw [if_neg c] at h
      by_cases d : m < 3
      · rw [if_pos d] at h
        obtain ⟨r1, a, b⟩ := h
        by_cases g1 : r1.1 = true
        · rw [if_pos g1] at b
          have t1 := ih (m + 1) _ _ _ _ _ (by omega) a g1
          have t2 := ih (m + 4) _ _ _ _ _ (by omega) b g
          exact ⟨now_tr t1.1 t2.2 t2.1, t1.2.tr t2.2⟩
        · rw [if_neg g1] at b
          rw [b] at g
          exact absurd g g1
      · rw [if_neg d] at h
        unfold xlo at h
        by_cases lv : lvo (wrd f n p).1 = m - 4
        · rw [if_pos lv] at h
          have h := xgo_t h g
          obtain ⟨r2, a, b⟩ := h
          by_cases g2 : r2.1 = true
          · rw [if_pos g2] at b
            have t2 := ih (m - 4 + 1) _ _ _ _ _ (by omega) a g2
            by_cases x : xun (wrd f n p).1 u r2.2.2.1 < 0
            · rw [if_pos x] at b
              exact (xer_t b g).elim
            · rw [if_neg x] at b
              by_cases n3 : r2.2.2.2.2.length = 300
              · rw [if_pos n3] at b
                exact (xer_t b g).elim
              · rw [if_neg n3] at b
                have oo := own_o (lvo_o lv (by omega))
                have p1 := PRE.one r2.2.2.2.2 ((wrd f n p).1, 0, 0, [ns.length - 1, r2.2.2.2.2.length - 1])
                have o1 : NOw ns (r2.2.2.2.2 ++ [((wrd f n p).1, 0, 0, [ns.length - 1, r2.2.2.2.2.length - 1])]) := now_tr t2.1 p1 (now_1 oo.1)
                by_cases z : m - 4 = 0
                · rw [if_pos z] at b
                  rw [b]
                  exact ⟨o1, t2.2.tr p1⟩
                · rw [if_neg z] at b
                  have t3 := ih (m - 4 + 4) _ _ _ _ _ (by omega) b g
                  exact ⟨now_tr o1 t3.2 t3.1, (t2.2.tr p1).tr t3.2⟩
          · rw [if_neg g2] at b
            rw [b] at g
            exact absurd g g2
        · rw [if_neg lv] at h
          by_cases z : m - 4 = 0
          · rw [if_pos z] at h
            exact (xer_t h g).elim
          · rw [if_neg z] at h
            rw [h]
            exact ⟨now_r ns, PRE.refl ns⟩
