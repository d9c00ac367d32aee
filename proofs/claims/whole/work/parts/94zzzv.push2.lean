/-! push, exactly -/
/-- the cell c of pipe p is written -/
theorem cel_w {z : MW} {p c : Nat} (hc : c < 256) {X : Int64} {f : Bool} (hX : ∀ x, x < 64 → lb X x = if x = c % 64 then f else lb (z.2.1 20 (4 * p + c / 64)) x) : (∀ c', c' < 256 → cel (sJ z 20 (4 * p + c / 64) X) p c' = if c' = c then f else cel z p c') ∧ ∀ p' c', c' < 256 → ¬ p' = p → cel (sJ z 20 (4 * p + c / 64) X) p' c' = cel z p' c' := by
  refine ⟨fun c' h' => ?_, fun p' c' h' np => ?_⟩
  · unfold cel
    rw [sJ_if]
    by_cases q : 4 * p + c' / 64 = 4 * p + c / 64
    · rw [if_pos q, hX _ (Nat.mod_lt _ (by decide))]
      by_cases q2 : c' % 64 = c % 64
      · rw [if_pos q2, if_pos (by omega)]
      · rw [if_neg q2, if_neg (fun e => q2 (by rw [e])), ← q]
    · rw [if_neg q, if_neg (fun e => q (by rw [e]))]
  · unfold cel
    rw [sJ_if, if_neg (by omega)]
/-- the ring behind a push: places go on by one -/
theorem lp_push {z w : MW} {p : Nat} {d f : Bool} (hg : RgP z p) (e12 : w.1 12 p = z.1 12 p) (e21 : stC w p = if d = true then lvc z p d else (stC z p + 1) % rmC z p) (ec : ∀ c, c < 256 → cel w p c = if c = lvc z p d then f else cel z p c) : lp w p d 0 = f ∧ ∀ j, j + 1 < rmC z p → lp w p d (j + 1) = lp z p d j := by
  have hg' := hg
  obtain ⟨⟨h1, h2⟩, h3, h4⟩ := hg'
  have er : rmC w p = rmC z p := by
    unfold rmC
    rw [e12]
  have r1 : 1 ≤ rmC z p ∧ rmC z p ≤ 200 := by unfold rmC; omega
  have s1 : stC z p < rmC z p := by unfold stC rmC; omega
  generalize hr : rmC z p = r at *
  generalize hs : stC z p = s at *
  cases d with
  | true =>
    have el : lvc z p true = (s + (r - 1)) % r := by
      unfold lvc
      rw [if_pos rfl, hs, hr]
    rw [if_pos rfl] at e21
    rw [md (by omega) (by omega)] at el
    have lp1 : ∀ y : MW, lp y p true = fun j => cel y p ((stC y p + j) % rmC y p) := fun y => by
      funext j
      unfold lp
      rw [if_pos rfl]
    rw [lp1 w, lp1 z, er, hs, hr, e21]
    have ll : lvc z p true < r := by
      rw [el]
      split <;> omega
    refine ⟨?_, fun j hj => ?_⟩
    · show cel w p ((lvc z p true + 0) % r) = f
      rw [Nat.add_zero, Nat.mod_eq_of_lt ll, ec _ (by omega), if_pos rfl]
    · show cel w p ((lvc z p true + (j + 1)) % r) = cel z p ((s + j) % r)
      have q : (lvc z p true + (j + 1)) % r = (s + j) % r := by
        rw [md ll (by omega), md s1 (by omega), el]
        split <;> split <;> split <;> omega
      have q2 : ¬ (s + j) % r = lvc z p true := by
        rw [md s1 (by omega), el]
        split <;> split <;> omega
      have q3 : (s + j) % r < 256 := by
        have := Nat.mod_lt (s + j) (show r > 0 by omega)
        omega
      rw [q, ec _ q3, if_neg q2]
  | false =>
    have el : lvc z p false = s := by
      unfold lvc
      rw [if_neg (by decide), hs, hr, Nat.add_zero, Nat.mod_eq_of_lt s1]
    rw [if_neg (by decide)] at e21
    have lp1 : ∀ y : MW, lp y p false = fun j => cel y p ((stC y p + (rmC y p - 1 - j)) % rmC y p) := fun y => by
      funext j
      unfold lp
      rw [if_neg (by decide)]
    rw [lp1 w, lp1 z, er, hs, hr, e21]
    have t1 : (s + 1) % r = if s + 1 < r then s + 1 else 0 := by
      by_cases c : s + 1 < r
      · rw [if_pos c, Nat.mod_eq_of_lt c]
      · rw [if_neg c, show s + 1 = r by omega, Nat.mod_self]
    have tl : (s + 1) % r < r := Nat.mod_lt _ (by omega)
    refine ⟨?_, fun j hj => ?_⟩
    · show cel w p (((s + 1) % r + (r - 1 - 0)) % r) = f
      have q : ((s + 1) % r + (r - 1 - 0)) % r = s := by
        rw [md (b := r - 1 - 0) tl (by omega), t1]
        split <;> split <;> omega
      rw [q, ec _ (by omega), if_pos el.symm]
    · show cel w p (((s + 1) % r + (r - 1 - (j + 1))) % r) = cel z p ((s + (r - 1 - j)) % r)
      have q : ((s + 1) % r + (r - 1 - (j + 1))) % r = (s + (r - 1 - j)) % r := by
        rw [md (b := r - 1 - (j + 1)) tl (by omega), md (b := r - 1 - j) s1 (by omega), t1]
        split <;> split <;> split <;> omega
      have q2 : ¬ (s + (r - 1 - j)) % r = lvc z p false := by
        rw [md s1 (by omega), el]
        split <;> omega
      have q3 : (s + (r - 1 - j)) % r < 256 := by
        have := Nat.mod_lt (s + (r - 1 - j)) (show r > 0 by omega)
        omega
      rw [q, ec _ q3, if_neg q2]
def bn (b : Bool) : Nat := if b = true then 1 else 0
/-- what a push leaves in the stock of space x, which held n -/
def PuR (z w : MW) (x n : Nat) (f l : Bool) (e : Int32) : Prop := (w.1 18 x).toInt + (bn l : Int) = (n : Int) + bn f ∧ w.1 17 x = (if f = true then e else if l = true ∧ n = 1 then 0 else z.1 17 x) ∧ w.1 19 x = (if f = false ∧ l = true ∧ n = 1 then z.1 17 x else z.1 19 x) ∧ ∀ i, 1 ≤ i → i ≤ 5 → w.1 23 (6 * x + i) = (if f = true then -1 else z.1 23 (6 * x + i))
/-- and where nothing changes -/
def PuO (z w : MW) (x p : Nat) : Prop := w.2.2 = z.2.2 ∧ (∀ c j, ¬ c = 17 → ¬ c = 18 → ¬ c = 19 → ¬ c = 21 → ¬ c = 23 → w.1 c j = z.1 c j) ∧ (∀ c j, c = 17 ∨ c = 18 ∨ c = 19 → ¬ j = x → w.1 c j = z.1 c j) ∧ (∀ j, ¬ j = p → w.1 21 j = z.1 21 j) ∧ (∀ j, ¬ (6 * x + 1 ≤ j ∧ j < 6 * x + 6) → w.1 23 j = z.1 23 j) ∧ (∀ c j, ¬ c = 20 → w.2.1 c j = z.2.1 c j) ∧ ∀ p' c, c < 256 → ¬ p' = p → cel w p' c = cel z p' c
def PuS (z w : MW) (x p n : Nat) (d f l : Bool) (e : Int32) : Prop := PuO z w x p ∧ PuR z w x n f l e ∧ RgP w p ∧ lp w p d 0 = f ∧ (∀ j, j + 1 < rmC z p → lp w p d (j + 1) = lp z p d j) ∧ l = lp z p d (rmC z p - 1)
/-- the litres of the space -/
theorem pu_st {z : MW} {a r4 c e : Int32} {x n : Nat} {Q Q' : Int32 → MW → Prop} (ex : ((z.1 8 0) + a).toInt = x) (x44 : x < 44) (en : (z.1 18 x).toInt = n) (nb : n ≤ 1000) (n17 : ¬ (z.1 17 x).toInt = 0 ↔ 0 < n) (nc : NoC z x) (e0 : ¬ e.toInt = 0) (l0 : ¬ r4.toInt = 0 → 1 ≤ n) (k : ∀ w, oSp z w x → PuR z w x n (bD c) (bD r4) e → Q r4 w → Q' r4 w) : (¬ c.toInt = 0 → (z.2.2 7 0 = some 8) → p_St_arrive z ((z.1 8 0) + a) e 1 (fun w18 => (q_St_push_138 a r4 w18 Q)) → p_St_arrive z ((z.1 8 0) + a) e 1 (fun w18 => (q_St_push_138 a r4 w18 Q'))) ∧ (c.toInt = 0 → q_St_push_138 a r4 z Q → q_St_push_138 a r4 z Q') := by
  have xn : ((z.1 8 0) + a).toInt.toNat = x := by omega
  refine ⟨fun cn _ h => ?_, fun c0 h => ?_⟩
  · have ft : bD c = true := decide_eq_true cn
    refine arr_x h (by omega) (by omega) (by rw [xn]; exact nc) (fun w o e17 e18 e19 e23 g => ?_)
    rw [xn] at o e17 e18 e19 e23
    have t18 : (w.1 18 x).toInt = ((n + 1 : Nat) : Int) := by
      have q := ti_add2 en i_1 (by omega) (by omega)
      rw [e18]
      omega
    rw [q_St_push_138.eq_1] at g ⊢
    refine ⟨fun d => ⟨(g.1 d).1, k w o ?_ (g.1 d).2⟩, fun d => ?_⟩
    · have lf : bD r4 = false := decide_eq_false (fun q => q d)
      unfold PuR
      rw [ft, lf, if_pos rfl, if_neg (fun q => absurd q.1 (by decide))]
      refine ⟨by rw [t18]; unfold bn; rw [if_pos rfl, if_neg (by decide)]; omega, e17, e19, fun i i1 i2 => ?_⟩
      rw [if_pos rfl]
      exact e23 i i1 i2
    · have lt : bD r4 = true := decide_eq_true d
      have G := g.2 d
      have w8 : w.1 8 0 = z.1 8 0 := o.2.1 8 0 (by decide) (by decide) (by decide) (by decide)
      rw [w8] at G ⊢
      refine ⟨G.1, lve_x (n := n + 1) G.2 (by omega) (by omega) (by rw [xn, e17]; exact e0) (by rw [xn]; exact t18) (by omega) (by omega) (by rw [xn]; exact fun _ i i1 i2 => e23 i i1 i2) (fun w2 o2 y18 y17 y19 y23 g2 => ⟨g2.1, k w2 ?_ ?_ g2.2⟩)⟩
      · rw [xn] at o2
        exact ⟨o2.1.trans o.1, fun c' j h1 h2 h3 h4 => (o2.2.1 c' j h1 h2 h3 h4).trans (o.2.1 c' j h1 h2 h3 h4), fun c' j hc hj => (o2.2.2.1 c' j hc hj).trans (o.2.2.1 c' j hc hj), fun j hj => (o2.2.2.2 j hj).trans (o.2.2.2 j hj)⟩
      · rw [xn] at y18 y17 y19 y23
        have n1 := l0 d
        have n2 : ¬ n + 1 = 1 := by omega
        rw [if_neg n2] at y17 y19
        unfold PuR
        rw [ft, lt, if_pos rfl, if_neg (fun q => absurd q.1 (by decide))]
        refine ⟨by rw [y18]; unfold bn; rw [if_pos rfl]; omega, by rw [y17]; exact e17, by rw [y19]; exact e19, fun i i1 i2 => ?_⟩
        rw [if_pos rfl]
        exact y23 i i1 i2
  · have ff : bD c = false := decide_eq_false (fun q => q c0)
    rw [q_St_push_138.eq_1] at h ⊢
    refine ⟨fun d => ⟨(h.1 d).1, k z ⟨rfl, fun _ _ _ _ _ _ => rfl, fun _ _ _ _ => rfl, fun _ _ => rfl⟩ ?_ (h.1 d).2⟩, fun d => ?_⟩
    · have lf : bD r4 = false := decide_eq_false (fun q => q d)
      unfold PuR
      rw [ff, lf, if_neg (by decide), if_neg (fun q => absurd q.1 (by decide)), if_neg (fun q => absurd q.2.1 (by decide))]
      refine ⟨by rw [en], rfl, rfl, fun i _ _ => ?_⟩
      rw [if_neg (by decide)]
    · have lt : bD r4 = true := decide_eq_true d
      have G := h.2 d
      have n1 := l0 d
      have z17 : ¬ (z.1 17 x).toInt = 0 := n17.mpr (by omega)
      refine ⟨G.1, lve_x (n := n) G.2 (by omega) (by omega) (by rw [xn]; exact z17) (by rw [xn]; exact en) n1 (by omega) (by rw [xn]; exact nc) (fun w2 o2 y18 y17 y19 y23 g2 => ⟨g2.1, k w2 ?_ ?_ g2.2⟩)⟩
      · rw [xn] at o2
        exact o2
      · rw [xn] at y18 y17 y19 y23
        unfold PuR
        rw [ff, lt]
        refine ⟨by rw [y18]; unfold bn; rw [if_pos rfl, if_neg (by decide)]; omega, ?_, ?_, fun i i1 i2 => ?_⟩
        · have nf : ¬ (false = true) := by decide
          rw [y17, if_neg nf]
          by_cases q : n = 1
          · rw [if_pos q, if_pos ⟨rfl, q⟩]
          · rw [if_neg q, if_neg (fun y => q y.2)]
        · rw [y19]
          by_cases q : n = 1
          · rw [if_pos q, if_pos ⟨rfl, rfl, q⟩]
          · rw [if_neg q, if_neg (fun y => q y.2.2)]
        · rw [y23 i i1 i2, if_neg (by decide)]
          exact (nc z17 i i1 i2).symm
theorem psh_x {z : MW} {a b c e : Int32} {x n : Nat} {Q Q' : Int32 → MW → Prop} (h : p_St_push z a b c e Q) (a0 : 0 ≤ a.toInt) (a1 : a.toInt < 24) (T : 0 ≤ tC z ∧ tC z ≤ 20) (ex : x = (tC z).toNat + a.toInt.toNat) (hg : RgP z a.toInt.toNat) (en : (z.1 18 x).toInt = n) (nb : n ≤ 1000) (n17 : ¬ (z.1 17 x).toInt = 0 ↔ 0 < n) (nc : NoC z x) (e0 : ¬ e.toInt = 0) (c1 : c.toInt = 0 ∨ c.toInt = 1) (l0 : lp z a.toInt.toNat (bD b) (rmC z a.toInt.toNat - 1) = true → 1 ≤ n) (k : ∀ (r : Int32) (w : MW), (r.toInt = 0 ∨ r.toInt = 1) → PuS z w x a.toInt.toNat n (bD b) (bD c) (bD r) e → Q r w → Q' r w) : p_St_push z a b c e Q' := by
  have l := lvc_lt hg (bD b)
  have el := lp_last hg (bD b)
  have an : nI a.toInt.toNat = a := nI_tn a0
  have hg' := hg
  obtain ⟨⟨h1, h2⟩, h3, h4⟩ := hg'
  have kt : (z.1 8 0).toInt = tC z := rfl
  have xi : ((z.1 8 0) + a).toInt = (x : Int) := by
    have q := ti_add2 (Eq.refl (z.1 8 0).toInt) (Eq.refl a.toInt) (by omega) (by omega)
    omega
  rw [p_St_push.eq_1] at h ⊢
  refine ⟨h.1, h.2.1, lvn_x h.2.2 hg (fun g => isf_x g a0 a1 (by omega) (fun r4 r01 hr4 g4 => ?_))⟩
  have lr : bD r4 = lp z a.toInt.toNat (bD b) (rmC z a.toInt.toNat - 1) := by
    rw [← el]
    generalize cel z a.toInt.toNat (lvc z a.toInt.toNat (bD b)) = y at hr4
    cases y with
    | false => exact decide_eq_false (fun t => t (hr4.mpr rfl))
    | true => exact decide_eq_true (fun t => by have t2 := hr4.mp t; cases t2)
  have ix : ((a * (4 : Int32)) + nI (lvc z a.toInt.toNat (bD b) / 64)).toInt.toNat = 4 * a.toInt.toNat + lvc z a.toInt.toNat (bD b) / 64 := by
    have q := c46 (p := a.toInt.toNat) (n := lvc z a.toInt.toNat (bD b)) (by omega) (by omega)
    rw [an] at q
    exact q
  rw [c6 _ (by omega), c63 _ (by omega)] at g4 ⊢
  have m64 : lvc z a.toInt.toNat (bD b) % 64 < 64 := Nat.mod_lt _ (by decide)
  have sb : ∀ y, lb ((1 : Int64) <<< ((nI (lvc z a.toInt.toNat (bD b) % 64)).toInt64 &&& 63)) y = decide (y = lvc z a.toInt.toNat (bD b) % 64) := fun y => by
    have q := lb_set (a := nI (lvc z a.toInt.toNat (bD b) % 64)) (by rw [nI_toInt (by omega)]; omega) (by rw [nI_toInt (by omega)]; omega) y
    rw [nI_toInt (by omega)] at q
    exact q
  have rest : ∀ X : Int64, (∀ y, y < 64 → lb X y = if y = lvc z a.toInt.toNat (bD b) % 64 then bD c else lb (z.2.1 20 (4 * a.toInt.toNat + lvc z a.toInt.toNat (bD b) / 64)) y) → q_St_push_85 a b c e (z.1 12 a.toInt.toNat) (nI (lvc z a.toInt.toNat (bD b))) r4 X ((a * (4 : Int32)) + nI (lvc z a.toInt.toNat (bD b) / 64)) z Q → q_St_push_85 a b c e (z.1 12 a.toInt.toNat) (nI (lvc z a.toInt.toNat (bD b))) r4 X ((a * (4 : Int32)) + nI (lvc z a.toInt.toNat (bD b) / 64)) z Q' := fun X hX g5 => by
    have cw := cel_w (z := z) (p := a.toInt.toNat) (c := lvc z a.toInt.toNat (bD b)) (by omega) hX
    have go : ∀ ns : Int32, ns.toInt = ((if bD b = true then lvc z a.toInt.toNat (bD b) else (stC z a.toInt.toNat + 1) % rmC z a.toInt.toNat : Nat) : Int) → q_St_push_117 a c e r4 ns a (sJ z 20 (4 * a.toInt.toNat + lvc z a.toInt.toNat (bD b) / 64) X) Q → q_St_push_117 a c e r4 ns a (sJ z 20 (4 * a.toInt.toNat + lvc z a.toInt.toNat (bD b) / 64) X) Q' := fun ns ens g6 => by
      rw [q_St_push_117.eq_1] at g6 ⊢
      have e21 : stC (sI (sJ z 20 (4 * a.toInt.toNat + lvc z a.toInt.toNat (bD b) / 64) X) 21 a.toInt.toNat ns) a.toInt.toNat = if bD b = true then lvc z a.toInt.toNat (bD b) else (stC z a.toInt.toNat + 1) % rmC z a.toInt.toNat := by
        unfold stC
        rw [sI_same]
        unfold stC at ens
        omega
      have ecl : ∀ c', c' < 256 → cel (sI (sJ z 20 (4 * a.toInt.toNat + lvc z a.toInt.toNat (bD b) / 64) X) 21 a.toInt.toNat ns) a.toInt.toNat c' = if c' = lvc z a.toInt.toNat (bD b) then bD c else cel z a.toInt.toNat c' := fun c' hc' => cw.1 c' hc'
      have e12 : (sI (sJ z 20 (4 * a.toInt.toNat + lvc z a.toInt.toNat (bD b) / 64) X) 21 a.toInt.toNat ns).1 12 a.toInt.toNat = z.1 12 a.toInt.toNat := by
        rw [sI_oth _ _ _ _ _ _ (by decide)]
        rfl
      have pl := lp_push (d := bD b) (f := bD c) hg e12 e21 ecl
      have rg : RgP (sI (sJ z 20 (4 * a.toInt.toNat + lvc z a.toInt.toNat (bD b) / 64) X) 21 a.toInt.toNat ns) a.toInt.toNat := by
        unfold RgP
        rw [e12, sI_same]
        have q : (if bD b = true then lvc z a.toInt.toNat (bD b) else (stC z a.toInt.toNat + 1) % rmC z a.toInt.toNat) < rmC z a.toInt.toNat := by
          split
          · exact l.1
          · exact Nat.mod_lt _ (by unfold rmC; omega)
        unfold rmC at q
        exact ⟨⟨h1, h2⟩, by omega, by unfold rmC at ens; omega⟩
      generalize hY : sI (sJ z 20 (4 * a.toInt.toNat + lvc z a.toInt.toNat (bD b) / 64) X) 21 a.toInt.toNat ns = Y at *
      have y1 : ∀ k j, ¬ k = 21 → Y.1 k j = z.1 k j := fun k j hk => by
        rw [← hY, sI_oth _ _ _ _ _ _ hk]
        rfl
      have yr : Y.2.2 = z.2.2 := by rw [← hY]; rfl
      have st := pu_st (z := Y) (a := a) (r4 := r4) (c := c) (e := e) (x := x) (n := n) (Q := Q) (Q' := Q') (by rw [y1 8 0 (by decide)]; exact xi) (by omega) (by rw [y1 18 x (by decide)]; exact en) nb (by rw [y1 17 x (by decide)]; exact n17) (fun q i i1 i2 => by rw [y1 17 x (by decide)] at q; rw [y1 23 _ (by decide)]; exact nc q i i1 i2) e0 (fun q => l0 (by rw [← lr]; exact decide_eq_true q)) (fun w o pr g9 => k r4 w r01 ?_ g9)
      · refine ⟨g6.1, fun d => st.2 d (g6.2.1 d), fun d => ?_⟩
        have G6 := g6.2.2 d
        have e8 : (sJ z 20 (4 * a.toInt.toNat + lvc z a.toInt.toNat (bD b) / 64) X).1 8 0 = Y.1 8 0 := by
          rw [y1 8 0 (by decide)]
          rfl
        rw [e8] at G6 ⊢
        exact ⟨G6.1, st.1 d (by rw [yr]; exact G6.1) G6.2⟩
      · have w12 : w.1 12 a.toInt.toNat = Y.1 12 a.toInt.toNat := o.2.1 12 _ (by decide) (by decide) (by decide) (by decide)
        have w21 : w.1 21 a.toInt.toNat = Y.1 21 a.toInt.toNat := o.2.1 21 _ (by decide) (by decide) (by decide) (by decide)
        have wl : ∀ p c', cel w p c' = cel Y p c' := fun p c' => by
          unfold cel
          rw [o.1]
        have wlp : lp w a.toInt.toNat (bD b) = lp Y a.toInt.toNat (bD b) := by
          funext j
          unfold lp stC rmC
          rw [wl, w12, w21]
        refine ⟨⟨?_, fun c' j g1 g2 g3 g4 g5 => ?_, fun c' j hc hj => ?_, fun j hj => ?_, fun j hj => ?_, fun c' j hc => ?_, fun p' c' hc hp => ?_⟩, ?_, ?_, ?_, fun j hj => ?_, lr⟩
        · rw [o.1, yr]
        · rw [o.2.1 c' j g1 g2 g3 g5, y1 c' j g4]
        · rw [o.2.2.1 c' j hc hj, y1 c' j (by omega)]
        · rw [o.2.1 21 j (by decide) (by decide) (by decide) (by decide), ← hY, sI_if, if_neg hj]
          rfl
        · rw [o.2.2.2 j hj, y1 23 j (by decide)]
        · rw [o.1, ← hY]
          show (sJ z 20 (4 * a.toInt.toNat + lvc z a.toInt.toNat (bD b) / 64) X).2.1 c' j = z.2.1 c' j
          rw [sJ_at, if_neg (fun q => hc q.1)]
        · rw [wl, ← hY]
          exact cw.2 p' c' hc hp
        · unfold PuR at pr ⊢
          rw [y1 17 x (by decide), y1 19 x (by decide)] at pr
          refine ⟨pr.1, pr.2.1, pr.2.2.1, fun i i1 i2 => ?_⟩
          rw [pr.2.2.2 i i1 i2, y1 23 _ (by decide)]
        · unfold RgP at rg ⊢
          rw [w12, w21]
          exact rg
        · rw [wlp]
          exact pl.1
        · rw [wlp]
          exact pl.2 j hj
    rw [q_St_push_85.eq_1, ix] at g5 ⊢
    refine ⟨g5.1, fun d => ⟨fun d2 => go 0 ?_ ((g5.2.1 d).1 d2), fun d2 => go _ ?_ ((g5.2.1 d).2 d2)⟩, fun d => go _ ?_ (g5.2.2 d)⟩
    · have bf : bD b = false := decide_eq_false (fun q => q d)
      have lv : lvc z a.toInt.toNat (bD b) = stC z a.toInt.toNat := by
        unfold lvc
        rw [bf, if_neg (by decide), Nat.add_zero, Nat.mod_eq_of_lt (by unfold stC rmC; omega)]
      have q := ti_add2 (nI_toInt (n := lvc z a.toInt.toNat (bD b)) (by omega)) i_1 (by omega) (by omega)
      rw [bf, if_neg (by decide), i_0, show stC z a.toInt.toNat + 1 = rmC z a.toInt.toNat by unfold stC rmC at *; omega, Nat.mod_self]
      rfl
    · have bf : bD b = false := decide_eq_false (fun q => q d)
      have lv : lvc z a.toInt.toNat (bD b) = stC z a.toInt.toNat := by
        unfold lvc
        rw [bf, if_neg (by decide), Nat.add_zero, Nat.mod_eq_of_lt (by unfold stC rmC; omega)]
      have q := ti_add2 (nI_toInt (n := lvc z a.toInt.toNat (bD b)) (by omega)) i_1 (by omega) (by omega)
      rw [q, bf, if_neg (by decide), Nat.mod_eq_of_lt (by unfold stC rmC at *; omega)]
      rw [bf] at lv
      omega
    · have bt : bD b = true := decide_eq_true d
      rw [bt, if_pos rfl, nI_toInt (by rw [bt] at l; omega)]
  refine ⟨fun d => ⟨(g4.1 d).1, rest _ (fun y hy => ?_) (g4.1 d).2⟩, fun d => ⟨(g4.2 d).1, rest _ (fun y hy => ?_) (g4.2 d).2⟩⟩
  · have cf : bD c = false := decide_eq_false (fun t => t d)
    rw [ix, lb_andn, sb y, cf]
    generalize lb (z.2.1 20 (4 * a.toInt.toNat + lvc z a.toInt.toNat (bD b) / 64)) y = t
    by_cases q : y = lvc z a.toInt.toNat (bD b) % 64
    · rw [if_pos q, decide_eq_true q]
      cases t <;> rfl
    · rw [if_neg q, decide_eq_false q]
      cases t <;> rfl
  · have ct : bD c = true := decide_eq_true d
    rw [ix, lb_or, sb y, ct]
    generalize lb (z.2.1 20 (4 * a.toInt.toNat + lvc z a.toInt.toNat (bD b) / 64)) y = t
    by_cases q : y = lvc z a.toInt.toNat (bD b) % 64
    · rw [if_pos q, decide_eq_true q]
      cases t <;> rfl
    · rw [if_neg q, decide_eq_false q]
      cases t <;> rfl
