/-! a sum lies in one piece: what is read from lo to e is the tree of e, and N places of a stack are enough for it -/
def TRX (ns : List Nod) : Nat → Nat → Nat → Nat → Prop
  | 0 => fun _ _ _ => False
  | k + 1 => fun lo e N => 1 ≤ N ∧ lo ≤ e ∧ ∃ d, ns[e]? = some d ∧ (((d.1 = 30 ∨ d.1 = 31) ∧ lo = e) ∨ (d.1 = 34 ∧ lo < e ∧ d.2.2.2 = [e - 1] ∧ TRX ns k lo (e - 1) N) ∨ ((d.1 = 42 ∨ d.1 = 43 ∨ d.1 = 45 ∨ d.1 = 47 ∨ d.1 = 60 ∨ d.1 = 61 ∨ d.1 = 62) ∧ ∃ a, d.2.2.2 = [a, e - 1] ∧ lo ≤ a ∧ a + 1 < e ∧ 2 ≤ N ∧ TRX ns k lo a N ∧ TRX ns k (a + 1) (e - 1) (N - 1)))
theorem TRX_u (ns : List Nod) (k lo e N : Nat) : TRX ns (k + 1) lo e N = (1 ≤ N ∧ lo ≤ e ∧ ∃ d, ns[e]? = some d ∧ (((d.1 = 30 ∨ d.1 = 31) ∧ lo = e) ∨ (d.1 = 34 ∧ lo < e ∧ d.2.2.2 = [e - 1] ∧ TRX ns k lo (e - 1) N) ∨ ((d.1 = 42 ∨ d.1 = 43 ∨ d.1 = 45 ∨ d.1 = 47 ∨ d.1 = 60 ∨ d.1 = 61 ∨ d.1 = 62) ∧ ∃ a, d.2.2.2 = [a, e - 1] ∧ lo ≤ a ∧ a + 1 < e ∧ 2 ≤ N ∧ TRX ns k lo a N ∧ TRX ns k (a + 1) (e - 1) (N - 1)))) := rfl
theorem TRX_m {ns ms : List Nod} (hp : PRE ns ms) : ∀ (k k' lo e N N' : Nat), k ≤ k' → N ≤ N' → TRX ns k lo e N → TRX ms k' lo e N' := by
  intro k
  induction k with
  | zero => exact fun _ _ _ _ _ _ _ h => False.elim h
  | succ k ih =>
    intro k' lo e N N' hk hN h
    cases k' with
    | zero => omega
    | succ k' =>
      rw [TRX_u] at h ⊢
      obtain ⟨h1, h2, d, hd, o⟩ := h
      refine ⟨by omega, h2, d, hp.get hd, ?_⟩
      rcases o with o | ⟨a, b, c, t⟩ | ⟨a, x, b, c, c2, c3, t1, t2⟩
      · exact Or.inl o
      · exact Or.inr (Or.inl ⟨a, b, c, ih k' lo (e - 1) N N' (by omega) hN t⟩)
      · exact Or.inr (Or.inr ⟨a, x, b, c, c2, by omega, ih k' lo x N N' (by omega) hN t1, ih k' (x + 1) (e - 1) (N - 1) (N' - 1) (by omega) (by omega) t2⟩)
def TX (ns : List Nod) (lo e N : Nat) : Prop := ∃ k, TRX ns k lo e N
theorem tx_m {ns ms : List Nod} {lo e N N' : Nat} (hp : PRE ns ms) (hN : N ≤ N') (h : TX ns lo e N) : TX ms lo e N' := by
  obtain ⟨k, h⟩ := h
  exact ⟨k, TRX_m hp k k lo e N N' (Nat.le_refl _) hN h⟩
theorem tx_0 {ns : List Nod} {d : Nod} {N : Nat} (h : d.1 = 30 ∨ d.1 = 31) (hN : 1 ≤ N) : TX (ns ++ [d]) ns.length ns.length N := ⟨1, by
  rw [TRX_u]
  refine ⟨hN, Nat.le_refl _, d, ?_, Or.inl ⟨h, rfl⟩⟩
  rw [List.getElem?_append_right (Nat.le_refl _), Nat.sub_self]
  rfl⟩
theorem tx_1 {ns : List Nod} {lo N : Nat} {a b : Int} (l0 : lo < ns.length) (h : TX ns lo (ns.length - 1) N) : TX (ns ++ [(34, a, b, [ns.length - 1])]) lo ns.length N := by
  have h' := tx_m (PRE.one ns (34, a, b, [ns.length - 1])) (Nat.le_refl N) h
  obtain ⟨k, h'⟩ := h'
  have h0 : 1 ≤ N := by
    cases k with
    | zero => exact False.elim h'
    | succ k =>
      rw [TRX_u] at h'
      exact h'.1
  refine ⟨k + 1, ?_⟩
  rw [TRX_u]
  refine ⟨h0, by omega, (34, a, b, [ns.length - 1]), ?_, Or.inr (Or.inl ⟨rfl, l0, rfl, h'⟩)⟩
  rw [List.getElem?_append_right (Nat.le_refl _), Nat.sub_self]
  rfl
theorem tx_2 {ns ms : List Nod} {lo N : Nat} {c a b : Int} (hc : c = 42 ∨ c = 43 ∨ c = 45 ∨ c = 47 ∨ c = 60 ∨ c = 61 ∨ c = 62) (l0 : lo < ns.length) (hp : PRE ns ms) (hl : ns.length < ms.length) (hN : 2 ≤ N) (h1 : TX ns lo (ns.length - 1) N) (h2 : TX ms ns.length (ms.length - 1) (N - 1)) : TX (ms ++ [(c, a, b, [ns.length - 1, ms.length - 1])]) lo ms.length N := by
  have p1 := PRE.one ms (c, a, b, [ns.length - 1, ms.length - 1])
  obtain ⟨k1, h1⟩ := tx_m (hp.tr p1) (Nat.le_refl N) h1
  obtain ⟨k2, h2⟩ := tx_m p1 (Nat.le_refl (N - 1)) h2
  refine ⟨k1 + k2 + 1, ?_⟩
  rw [TRX_u]
  refine ⟨by omega, by omega, (c, a, b, [ns.length - 1, ms.length - 1]), ?_, Or.inr (Or.inr ⟨hc, ns.length - 1, rfl, by omega, by omega, hN, TRX_m (PRE.refl _) k1 _ _ _ _ _ (by omega) (Nat.le_refl _) h1, ?_⟩)⟩
  · rw [List.getElem?_append_right (Nat.le_refl _), Nat.sub_self]
    rfl
  · rw [show ns.length - 1 + 1 = ns.length by omega]
    exact TRX_m (PRE.refl _) k2 _ _ _ _ _ (by omega) (Nat.le_refl _) h2
/-- how much a sum may want: 3 a factor, 2 a product, 1 a sum, 0 a test -/
def nX (m op : Nat) : Nat := 2 * (20 - op) + (if 4 ≤ m then 8 - m else 4 - m)
def XTr (lk : List Int → Int × Int × Int × Int) (X : XQ) : Prop := ∀ (m op : Nat) (u p : Int) (ns : List Nod) (r : XR), m ≤ 6 → X m op u p ns r → r.1 = true → NWf lk ns → (m ≤ 3 → TX r.2.2.2.2 ns.length (r.2.2.2.2.length - 1) (nX m op)) ∧ (4 ≤ m → ∀ lo, lo < ns.length → TX ns lo (ns.length - 1) (nX m op) → TX r.2.2.2.2 lo (r.2.2.2.2.length - 1) (nX m op))
theorem xnd_tx {f : Int → Int} {n u p : Int} {ns : List Nod} {d : Nod} {r : XR} (e : r = xnd f n u p ns d) (g : r.1 = true) : r.2.2.2.2 = ns ++ [d] := by
  unfold xnd at e
  by_cases c : ns.length = 300
  · rw [if_pos c] at e
    exact (xer_t e g).elim
  · rw [if_neg c] at e
    rw [e]
theorem XP_tr (f : Int → Int) (n : Int) (lk : List Int → Int × Int × Int × Int) : ∀ k, XTr lk (XP f n lk k) := by
  intro k
  induction k with
  | zero => exact fun _ _ _ _ _ _ _ h => False.elim h
  | succ k ih =>
    intro m op u p ns r m6 h g hN
    have len1 : ∀ d : Nod, (ns ++ [d]).length = ns.length + 1 := fun d => by rw [List.length_append, List.length_singleton]
    have h' := h
    rw [XP_u] at h
    by_cases c : m = 3
    · refine ⟨fun _ => ?_, fun z => by omega⟩
      have n1 : 1 ≤ nX m op := by
        unfold nX
        rw [if_neg (by omega)]
        omega
      rw [if_pos c] at h
      have leaf : ∀ d : Nod, r.2.2.2.2 = ns ++ [d] → (d.1 = 30 ∨ d.1 = 31) → TX r.2.2.2.2 ns.length (r.2.2.2.2.length - 1) (nX m op) := fun d e hd => by
        rw [e, len1, Nat.add_sub_cancel]
        exact tx_0 hd n1
      unfold xfa at h
      by_cases k31 : (wrd f n p).1 = 31
      · rw [if_pos k31] at h
        unfold xfn at h
        have h := xgo_t h g
        by_cases big : 999999999999 < (wrd f n p).2.2.2.2.1 * xmu (wrd f n (wrd f n p).2.2.1).1
        · rw [if_pos big] at h
          exact (xer_t h g).elim
        · rw [if_neg big] at h
          by_cases uu : 0 < xut (wrd f n (wrd f n p).2.2.1).1
          · rw [if_pos uu] at h
            exact leaf _ (xnd_tx (xgo_t h g) g) (Or.inr rfl)
          · rw [if_neg uu] at h
            exact leaf _ (xnd_tx h g) (Or.inr rfl)
      · rw [if_neg k31] at h
        by_cases k40 : (wrd f n p).1 = 40 ∨ (wrd f n p).1 = 45
        · rw [if_pos k40] at h
          unfold xfo at h
          by_cases o : 20 ≤ op
          · rw [if_pos o] at h
            exact (xer_t h g).elim
          · rw [if_neg o] at h
            have h := xgo_t h g
            by_cases k45 : (wrd f n p).1 = 45
            · rw [if_pos k45] at h
              obtain ⟨r1, a, b⟩ := h
              by_cases g1 : r1.1 = true
              · rw [if_pos g1] at b
                have l1 := (XP_wf f n lk k 3 _ _ _ _ _ (by decide) a g1 hN (by omega)).2.2 (by decide)
                have t1 := (ih 3 _ _ _ _ _ (by decide) a g1 hN).1 (by decide)
                have eq := xnd_tx b g
                rw [eq, List.length_append, List.length_singleton, Nat.add_sub_cancel]
                refine tx_1 l1 (tx_m (PRE.refl _) ?_ t1)
                unfold nX
                rw [if_neg (by omega), if_neg (by omega)]
                omega
              · rw [if_neg g1] at b
                rw [b] at g
                exact absurd g g1
            · rw [if_neg k45] at h
              obtain ⟨r1, a, b⟩ := h
              by_cases g1 : r1.1 = true
              · rw [if_pos g1] at b
                have t1 := (ih 1 _ _ _ _ _ (by decide) a g1 hN).1 (by decide)
                by_cases k41 : (wrd f n r1.2.2.2.1).1 = 41
                · rw [if_pos k41] at b
                  rw [xgo_t b g]
                  refine tx_m (PRE.refl _) ?_ t1
                  unfold nX
                  rw [if_neg (by omega), if_neg (by omega)]
                  omega
                · rw [if_neg k41] at b
                  exact (xer_t b g).elim
              · rw [if_neg g1] at b
                rw [b] at g
                exact absurd g g1
        · rw [if_neg k40] at h
          by_cases k30 : (wrd f n p).1 = 30 ∧ 0 ≤ (lk (wrd f n p).2.2.2.1).1 ∧ ¬ (lk (wrd f n p).2.2.2.1).2.1 = 10
          · rw [if_pos k30] at h
            exact leaf _ (xnd_tx (xgo_t h g) g) (Or.inl rfl)
          · rw [if_neg k30] at h
            exact (xer_t h g).elim
    · rw [if_neg c] at h
      by_cases d : m < 3
      · refine ⟨fun _ => ?_, fun z => by omega⟩
        rw [if_pos d] at h
        obtain ⟨r1, a, b⟩ := h
        by_cases g1 : r1.1 = true
        · rw [if_pos g1] at b
          have w1 := XP_wf f n lk k (m + 1) _ _ _ _ _ (by omega) a g1 hN (by omega)
          have l1 := w1.2.2 (by omega)
          have t1 := (ih (m + 1) _ _ _ _ _ (by omega) a g1 hN).1 (by omega)
          have t2 := (ih (m + 4) _ _ _ _ _ (by omega) b g w1.1).2 (by omega) ns.length l1 (tx_m (PRE.refl _) (by
            unfold nX
            rw [if_neg (by omega), if_pos (by omega)]
            omega) t1)
          refine tx_m (PRE.refl _) ?_ t2
          unfold nX
          rw [if_pos (by omega), if_neg (by omega)]
          omega
        · rw [if_neg g1] at b
          rw [b] at g
          exact absurd g g1
      · refine ⟨fun z => by omega, fun m4 lo hlo hT => ?_⟩
        rw [if_neg d] at h
        unfold xlo at h
        have en : nX m op = 2 * (20 - op) + (8 - m) := by
          unfold nX
          rw [if_pos (by omega)]
        by_cases lv : lvo (wrd f n p).1 = m - 4
        · rw [if_pos lv] at h
          have h := xgo_t h g
          obtain ⟨r2, a, b⟩ := h
          by_cases g2 : r2.1 = true
          · rw [if_pos g2] at b
            have w2 := XP_wf f n lk k (m - 4 + 1) _ _ _ _ _ (by omega) a g2 hN (by omega)
            have l2 := w2.2.2 (by omega)
            have t2 := (ih (m - 4 + 1) _ _ _ _ _ (by omega) a g2 hN).1 (by omega)
            by_cases x : xun (wrd f n p).1 u r2.2.2.1 < 0
            · rw [if_pos x] at b
              exact (xer_t b g).elim
            · rw [if_neg x] at b
              by_cases n3 : r2.2.2.2.2.length = 300
              · rw [if_pos n3] at b
                exact (xer_t b g).elim
              · rw [if_neg n3] at b
                have ho := lvo_o lv (by omega)
                have T := tx_2 (c := (wrd f n p).1) (a := 0) (b := 0) (N := nX m op) (by omega) hlo w2.2.1 l2 (by omega) hT (tx_m (PRE.refl _) (by
                  rw [en]
                  unfold nX
                  rw [if_neg (by omega)]
                  omega) t2)
                have len2 : (r2.2.2.2.2 ++ [((wrd f n p).1, (0 : Int), (0 : Int), [ns.length - 1, r2.2.2.2.2.length - 1])]).length = r2.2.2.2.2.length + 1 := by rw [List.length_append, List.length_singleton]
                by_cases z : m - 4 = 0
                · rw [if_pos z] at b
                  rw [b]
                  show TX (r2.2.2.2.2 ++ [((wrd f n p).1, 0, 0, [ns.length - 1, r2.2.2.2.2.length - 1])]) lo ((r2.2.2.2.2 ++ [((wrd f n p).1, 0, 0, [ns.length - 1, r2.2.2.2.2.length - 1])]).length - 1) (nX m op)
                  rw [len2, Nat.add_sub_cancel]
                  exact T
                · rw [if_neg z] at b
                  have nk : ¬ (wrd f n p).1 = 23 := by omega
                  have w3 : NWf lk (r2.2.2.2.2 ++ [((wrd f n p).1, 0, 0, [ns.length - 1, r2.2.2.2.2.length - 1])]) := nwf_s w2.1 (fun c hc => by
                    rcases List.mem_cons.mp hc with e | e
                    · rw [e]
                      omega
                    · rw [List.mem_singleton.mp e]
                      omega) (fun z => absurd z nk)
                  rw [show m - 4 + 4 = m by omega] at b
                  refine (ih m _ _ _ _ _ (by omega) b g w3).2 (by omega) lo (by rw [len2]; omega) ?_
                  rw [len2, Nat.add_sub_cancel]
                  exact T
          · rw [if_neg g2] at b
            rw [b] at g
            exact absurd g g2
        · rw [if_neg lv] at h
          by_cases z : m - 4 = 0
          · rw [if_pos z] at h
            exact (xer_t h g).elim
          · rw [if_neg z] at h
            rw [h]
            exact hT
/-- a sum or a test is read: its tree is one piece -/
theorem xp_tx {f : Int → Int} {n : Int} {lk : List Int → Int × Int × Int × Int} {k m op : Nat} {u p : Int} {ns : List Nod} {r : XR} (hm : m ≤ 1) (h : XP f n lk k m op u p ns r) (g : r.1 = true) (hN : NWf lk ns) : TX r.2.2.2.2 ns.length (r.2.2.2.2.length - 1) 44 := by
  refine tx_m (PRE.refl _) ?_ ((XP_tr f n lk k m op u p ns r (by omega) h g hN).1 (by omega))
  unfold nX
  rw [if_neg (by omega)]
  omega
