/-! programs: each kid stands before its node; what a do names -/
def DOk (lk : List Int → Int × Int × Int × Int) (i : Nat) (d : Nod) : Prop := d.1 = 23 → d.2.2.2 = [] ∧ (∃ (l : List Int) (u : Int), lk l = (d.2.1, 10, u, d.2.2.1) ∧ 0 ≤ d.2.1) ∧ 0 ≤ d.2.2.1 ∧ d.2.2.1 + 1 < (i : Int)
def NWf (lk : List Int → Int × Int × Int × Int) (ns : List Nod) : Prop := ∀ (i : Nat) (d : Nod), ns[i]? = some d → (∀ c ∈ d.2.2.2, c < i) ∧ DOk lk i d
/-- the steps that are known stand already -/
def LkB (lk : List Int → Int × Int × Int × Int) (ns : List Nod) : Prop := ∀ l : List Int, 0 ≤ (lk l).1 → (lk l).2.1 = 10 → 0 ≤ (lk l).2.2.2 ∧ (lk l).2.2.2 + 1 < (ns.length : Int)
def PRE (ns ms : List Nod) : Prop := ∃ t, ms = ns ++ t
theorem PRE.refl (ns : List Nod) : PRE ns ns := ⟨[], (List.append_nil ns).symm⟩
theorem PRE.tr {a b c : List Nod} (h : PRE a b) (h2 : PRE b c) : PRE a c := by
  obtain ⟨t, e⟩ := h
  obtain ⟨t2, e2⟩ := h2
  exact ⟨t ++ t2, by rw [e2, e, List.append_assoc]⟩
theorem PRE.one (ns : List Nod) (d : Nod) : PRE ns (ns ++ [d]) := ⟨[d], rfl⟩
theorem PRE.len {a b : List Nod} (h : PRE a b) : a.length ≤ b.length := by
  obtain ⟨t, e⟩ := h
  rw [e, List.length_append]
  omega
theorem PRE.get {a b : List Nod} (h : PRE a b) {i : Nat} {d : Nod} (hd : a[i]? = some d) : b[i]? = some d := by
  obtain ⟨t, e⟩ := h
  have l := (List.getElem?_eq_some_iff.mp hd).1
  rw [e, List.getElem?_append_left l]
  exact hd
theorem lkb_m {lk : List Int → Int × Int × Int × Int} {a b : List Nod} (h : LkB lk a) (hl : a.length ≤ b.length) : LkB lk b := fun l h0 h1 => by
  have t := h l h0 h1
  exact ⟨t.1, by omega⟩
theorem nwf_s {lk : List Int → Int × Int × Int × Int} {ns : List Nod} {d : Nod} (h : NWf lk ns) (hk : ∀ c ∈ d.2.2.2, c < ns.length) (hd : DOk lk ns.length d) : NWf lk (ns ++ [d]) := by
  intro i x hx
  rcases app_get hx with q | ⟨q, q2⟩
  · exact h i x q
  · rw [q, q2]
    exact ⟨hk, hd⟩
theorem xnd_wf {f : Int → Int} {n u p : Int} {lk : List Int → Int × Int × Int × Int} {ns : List Nod} {d : Nod} {r : XR} (e : r = xnd f n u p ns d) (g : r.1 = true) (h : NWf lk ns) (hk : ∀ c ∈ d.2.2.2, c < ns.length) (hd : ¬ d.1 = 23) : NWf lk r.2.2.2.2 ∧ PRE ns r.2.2.2.2 ∧ ns.length < r.2.2.2.2.length := by
  unfold xnd at e
  by_cases c : ns.length = 300
  · rw [if_pos c] at e
    rw [e] at g
    exact absurd (show false = true from g) (by decide)
  · rw [if_neg c] at e
    rw [e]
    refine ⟨nwf_s h hk (fun z => absurd z hd), PRE.one ns d, ?_⟩
    show ns.length < (ns ++ [d]).length
    rw [List.length_append, List.length_singleton]
    omega
theorem xgo_t {f : Int → Int} {n p : Int} {r : XR} {K : Prop} (h : xgo f n p r K) (g : r.1 = true) : K := by
  unfold xgo at h
  by_cases c : (wrd f n (wrd f n p).2.2.1).1 = 33
  · rw [if_pos c] at h
    rw [h] at g
    exact absurd (show false = true from g) (by decide)
  · rw [if_neg c] at h
    exact h
theorem xer_t {r : XR} {e : Int} (h : r = xer e) (g : r.1 = true) : False := by
  rw [h] at g
  exact absurd (show false = true from g) (by decide)
def XWf (lk : List Int → Int × Int × Int × Int) (X : XQ) : Prop := ∀ (m op : Nat) (u p : Int) (ns : List Nod) (r : XR), m ≤ 6 → X m op u p ns r → r.1 = true → NWf lk ns → (4 ≤ m → 0 < ns.length) → NWf lk r.2.2.2.2 ∧ PRE ns r.2.2.2.2 ∧ (m ≤ 3 → ns.length < r.2.2.2.2.length)
theorem XP_wf (f : Int → Int) (n : Int) (lk : List Int → Int × Int × Int × Int) : ∀ k, XWf lk (XP f n lk k) := by
  intro k
  induction k with
  | zero => exact fun _ _ _ _ _ _ _ h => False.elim h
  | succ k ih =>
    intro m op u p ns r m6 h g hN h4
    rw [XP_u] at h
    by_cases c : m = 3
    · rw [if_pos c] at h
      unfold xfa at h
      by_cases k31 : (wrd f n p).1 = 31
      · rw [if_pos k31] at h
        unfold xfn at h
        have h := xgo_t h g
        by_cases big : 999999999999 < (wrd f n p).2.2.2.2.1 * xmu (wrd f n (wrd f n p).2.2.1).1
        · rw [if_pos big] at h
          exact (xer_t h g).elim
        · rw [if_neg big] at h
          by_cases uu : 0 < xut (wrd f n (wrd f n p).2.2.1).1
          · rw [if_pos uu] at h
            have t := xnd_wf (xgo_t h g) g hN (fun c hc => (by cases hc)) (show ¬ (31 : Int) = 23 by decide)
            exact ⟨t.1, t.2.1, fun _ => t.2.2⟩
          · rw [if_neg uu] at h
            have t := xnd_wf h g hN (fun c hc => (by cases hc)) (show ¬ (31 : Int) = 23 by decide)
            exact ⟨t.1, t.2.1, fun _ => t.2.2⟩
      · rw [if_neg k31] at h
        by_cases k40 : (wrd f n p).1 = 40 ∨ (wrd f n p).1 = 45
        · rw [if_pos k40] at h
          unfold xfo at h
          by_cases o : 20 ≤ op
          · rw [if_pos o] at h
            exact (xer_t h g).elim
          · rw [if_neg o] at h
            have h := xgo_t h g
            by_cases k45 : (wrd f n p).1 = 45
            · rw [if_pos k45] at h
              obtain ⟨r1, a, b⟩ := h
              by_cases g1 : r1.1 = true
              · rw [if_pos g1] at b
                have t1 := ih 3 _ _ _ _ _ (by decide) a g1 hN (by omega)
                have l1 := t1.2.2 (by decide)
                have t := xnd_wf b g t1.1 (fun c hc => by rw [List.mem_singleton.mp hc]; omega) (show ¬ (34 : Int) = 23 by decide)
                exact ⟨t.1, t1.2.1.tr t.2.1, fun _ => by omega⟩
              · rw [if_neg g1] at b
                rw [b] at g
                exact absurd g g1
            · rw [if_neg k45] at h
              obtain ⟨r1, a, b⟩ := h
              by_cases g1 : r1.1 = true
              · rw [if_pos g1] at b
                have t1 := ih 1 _ _ _ _ _ (by decide) a g1 hN (by omega)
                by_cases k41 : (wrd f n r1.2.2.2.1).1 = 41
                · rw [if_pos k41] at b
                  rw [xgo_t b g]
                  exact ⟨t1.1, t1.2.1, fun _ => t1.2.2 (by decide)⟩
                · rw [if_neg k41] at b
                  exact (xer_t b g).elim
              · rw [if_neg g1] at b
                rw [b] at g
                exact absurd g g1
        · rw [if_neg k40] at h
          by_cases k30 : (wrd f n p).1 = 30 ∧ 0 ≤ (lk (wrd f n p).2.2.2.1).1 ∧ ¬ (lk (wrd f n p).2.2.2.1).2.1 = 10
          · rw [if_pos k30] at h
            have t := xnd_wf (xgo_t h g) g hN (fun c hc => (by cases hc)) (show ¬ (30 : Int) = 23 by decide)
            exact ⟨t.1, t.2.1, fun _ => t.2.2⟩
          · rw [if_neg k30] at h
            exact (xer_t h g).elim
    · rw [if_neg c] at h
      by_cases d : m < 3
      · rw [if_pos d] at h
        obtain ⟨r1, a, b⟩ := h
        by_cases g1 : r1.1 = true
        · rw [if_pos g1] at b
          have t1 := ih (m + 1) _ _ _ _ _ (by omega) a g1 hN (by omega)
          have l1 := t1.2.2 (by omega)
          have t2 := ih (m + 4) _ _ _ _ _ (by omega) b g t1.1 (fun _ => by omega)
          have l2 := t2.2.1.len
          exact ⟨t2.1, t1.2.1.tr t2.2.1, fun _ => by omega⟩
        · rw [if_neg g1] at b
          rw [b] at g
          exact absurd g g1
      · rw [if_neg d] at h
        have n0 := h4 (by omega)
        unfold xlo at h
        by_cases lv : lvo (wrd f n p).1 = m - 4
        · rw [if_pos lv] at h
          have h := xgo_t h g
          obtain ⟨r2, a, b⟩ := h
          by_cases g2 : r2.1 = true
          · rw [if_pos g2] at b
            have t2 := ih (m - 4 + 1) _ _ _ _ _ (by omega) a g2 hN (by omega)
            have l2 := t2.2.2 (by omega)
            by_cases x : xun (wrd f n p).1 u r2.2.2.1 < 0
            · rw [if_pos x] at b
              exact (xer_t b g).elim
            · rw [if_neg x] at b
              by_cases n3 : r2.2.2.2.2.length = 300
              · rw [if_pos n3] at b
                exact (xer_t b g).elim
              · rw [if_neg n3] at b
                have nk : ¬ (wrd f n p).1 = 23 := by
                  have := lvo_o lv (by omega)
                  omega
                have w2 : NWf lk (r2.2.2.2.2 ++ [((wrd f n p).1, 0, 0, [ns.length - 1, r2.2.2.2.2.length - 1])]) := nwf_s t2.1 (fun c hc => by
                  rcases List.mem_cons.mp hc with e | e
                  · rw [e]
                    omega
                  · rw [List.mem_singleton.mp e]
                    omega) (fun z => absurd z nk)
                have p2 := t2.2.1.tr (PRE.one r2.2.2.2.2 ((wrd f n p).1, 0, 0, [ns.length - 1, r2.2.2.2.2.length - 1]))
                by_cases z : m - 4 = 0
                · rw [if_pos z] at b
                  rw [b]
                  exact ⟨w2, p2, fun q => by omega⟩
                · rw [if_neg z] at b
                  have t3 := ih (m - 4 + 4) _ _ _ _ _ (by omega) b g w2 (fun _ => by rw [List.length_append, List.length_singleton]; omega)
                  exact ⟨t3.1, p2.tr t3.2.1, fun q => by omega⟩
          · rw [if_neg g2] at b
            rw [b] at g
            exact absurd g g2
        · rw [if_neg lv] at h
          by_cases z : m - 4 = 0
          · rw [if_pos z] at h
            exact (xer_t h g).elim
          · rw [if_neg z] at h
            rw [h]
            exact ⟨hN, PRE.refl ns, fun q => by omega⟩
def KLt (s : ZS) : Prop := ∀ c ∈ s.2.2.2.1, c < s.2.1.length
def ZWf (lk : List Int → Int × Int × Int × Int) (X : ZQ) : Prop := ∀ (op : Nat) (l : List (Int × Int)) (s : ZS) (r : ZR), X op l s r → r.1 = true → NWf lk s.2.1 → LkB lk s.2.1 → KLt s → NWf lk r.2.2.2.1 ∧ PRE s.2.1 r.2.2.2.1 ∧ KLt r.2.2
theorem zer_t {r : ZR} {e : Int} (h : r = zer e) (g : r.1 = true) : False := by
  rw [h] at g
  exact absurd (show false = true from g) (by decide)
theorem zgo_t {f : Int → Int} {n : Int} {s : ZS} {r : ZR} (h : r = zgo f n s) (g : r.1 = true) : r = zok ((wrd f n s.1).2.2.1, s.2) := by
  unfold zgo at h
  by_cases c : (wrd f n (wrd f n s.1).2.2.1).1 = 33
  · rw [if_pos c] at h
    exact (zer_t h g).elim
  · rw [if_neg c] at h
    exact h
theorem znd_wf {f : Int → Int} {n m : Int} {lk : List Int → Int × Int × Int × Int} {s t : ZS} {d : Nod} {r : ZR} (e : r = znd f n s t m d) (g : r.1 = true) (h : NWf lk t.2.1) (hp : PRE s.2.1 t.2.1) (hs : KLt s) (hk : ∀ c ∈ d.2.2.2, c < t.2.1.length) (hd : DOk lk t.2.1.length d) : NWf lk r.2.2.2.1 ∧ PRE s.2.1 r.2.2.2.1 ∧ KLt r.2.2 := by
  unfold znd at e
  by_cases c : t.2.1.length = 300
  · rw [if_pos c] at e
    exact (zer_t e g).elim
  · rw [if_neg c] at e
    rw [e]
    refine ⟨nwf_s h hk hd, hp.tr (PRE.one _ _), fun c hc => ?_⟩
    have hc' : c ∈ s.2.2.2.1 ++ [t.2.1.length] := hc
    show c < (t.2.1 ++ [d]).length
    rw [List.length_append, List.length_singleton]
    have l := hp.len
    rcases List.mem_append.mp hc' with q | q
    · have := hs c q
      omega
    · rw [List.mem_singleton.mp q]
      omega
/-- what a do names -/
theorem zz_do {f : Int → Int} {n : Int} {lk : List Int → Int × Int × Int × Int} {k op : Nat} {s : ZS} {r : ZR} (h : ZZ f n lk k op [(0, 23), (1, 10), (0, 59)] s r) (g : r.1 = true) : r.2.2.2.2.2.1 = s.2.2.2.1 ∧ ∃ (l : List Int) (u : Int), lk l = (r.2.2.2.2.2.2.1, 10, u, r.2.2.2.2.2.2.2.2) ∧ 0 ≤ r.2.2.2.2.2.2.1 := by
  cases k with
  | zero => exact False.elim h
  | succ k =>
    rw [ZZ_c] at h
    obtain ⟨r1, a1, b1⟩ := h
    by_cases g1 : r1.1 = true
    · rw [if_pos g1] at b1
      have a1' : r1 = ztk f n 23 s := a1
      unfold ztk at a1'
      by_cases c1 : (wrd f n s.1).1 = 23
      case neg =>
        rw [if_neg c1] at a1'
        exact (zer_t a1' g1).elim
      rw [if_pos c1] at a1'
      have e1 := zgo_t a1' g1
      cases k with
      | zero => exact False.elim b1
      | succ k =>
        rw [ZZ_c] at b1
        obtain ⟨r2, a2, b2⟩ := b1
        by_cases g2 : r2.1 = true
        · rw [if_pos g2] at b2
          have a2' : r2 = znm f n lk 10 r1.2.2 := a2
          unfold znm at a2'
          by_cases c : (wrd f n r1.2.2.1).1 = 30 ∧ 0 ≤ (lk (wrd f n r1.2.2.1).2.2.2.1).1 ∧ (lk (wrd f n r1.2.2.1).2.2.2.1).2.1 = 10
          · rw [if_pos c] at a2'
            have e2 := zgo_t a2' g2
            cases k with
            | zero => exact False.elim b2
            | succ k =>
              rw [ZZ_c] at b2
              obtain ⟨r3, a3, b3⟩ := b2
              by_cases g3 : r3.1 = true
              · rw [if_pos g3] at b3
                have a3' : r3 = ztk f n 59 r2.2.2 := a3
                unfold ztk at a3'
                by_cases c3 : (wrd f n r2.2.2.1).1 = 59
                · rw [if_pos c3] at a3'
                  have e3 := zgo_t a3' g3
                  cases k with
                  | zero => exact False.elim b3
                  | succ k =>
                    rw [ZZ_n] at b3
                    rw [b3, e3, e2]
                    refine ⟨by rw [e1]; rfl, (wrd f n r1.2.2.1).2.2.2.1, (lk (wrd f n r1.2.2.1).2.2.2.1).2.2.1, ?_, c.2.1⟩
                    show lk (wrd f n r1.2.2.1).2.2.2.1 = ((lk (wrd f n r1.2.2.1).2.2.2.1).1, 10, (lk (wrd f n r1.2.2.1).2.2.2.1).2.2.1, (lk (wrd f n r1.2.2.1).2.2.2.1).2.2.2)
                    rw [← c.2.2]
                · rw [if_neg c3] at a3'
                  exact (zer_t a3' g3).elim
              · rw [if_neg g3] at b3
                rw [b3] at g
                exact absurd g g3
          · rw [if_neg c] at a2'
            exact (zer_t a2' g2).elim
        · rw [if_neg g2] at b2
          rw [b2] at g
          exact absurd g g2
    · rw [if_neg g1] at b1
      rw [b1] at g
      exact absurd g g1
theorem zit_wf {f : Int → Int} {n : Int} {lk : List Int → Int × Int × Int × Int} {k op : Nat} {c a : Int} {s : ZS} {r : ZR} (hX : ZWf lk (ZZ f n lk k)) (h : zit f n lk (ZZ f n lk k) op c a s r) (g : r.1 = true) (hN : NWf lk s.2.1) (hL : LkB lk s.2.1) (hK : KLt s) : NWf lk r.2.2.2.1 ∧ PRE s.2.1 r.2.2.2.1 ∧ KLt r.2.2 := by
  have same : ∀ (s' : ZS), r = zok s' → s'.2.1 = s.2.1 → s'.2.2.2.1 = s.2.2.2.1 → NWf lk r.2.2.2.1 ∧ PRE s.2.1 r.2.2.2.1 ∧ KLt r.2.2 := fun s' e e1 e2 => by
    rw [e]
    show NWf lk s'.2.1 ∧ PRE s.2.1 s'.2.1 ∧ KLt s'
    unfold KLt
    rw [e1, e2]
    exact ⟨hN, PRE.refl _, hK⟩
  have sum : ∀ (m : Nat) (x : XR), m ≤ 1 → (∃ k, XP f n lk k m op 0 s.1 s.2.1 x) → x.1 = true → r = zok (x.2.2.2.1, x.2.2.2.2, s.2.2.1, s.2.2.2.1 ++ [x.2.2.2.2.length - 1], s.2.2.2.2) → NWf lk r.2.2.2.1 ∧ PRE s.2.1 r.2.2.2.1 ∧ KLt r.2.2 := fun m x hm hx gx e => by
    obtain ⟨kk, hx⟩ := hx
    have t := XP_wf f n lk kk m _ _ _ _ _ (by omega) hx gx hN (by omega)
    have l := t.2.2 (by omega)
    rw [e]
    refine ⟨t.1, t.2.1, fun c hc => ?_⟩
    have hc' : c ∈ s.2.2.2.1 ++ [x.2.2.2.2.length - 1] := hc
    show c < x.2.2.2.2.length
    rcases List.mem_append.mp hc' with q | q
    · have := hK c q
      omega
    · rw [List.mem_singleton.mp q]
      omega
  have k0 : KLt (zin s) := fun c hc => (by cases hc)
  unfold zit at h
  by_cases c0 : c = 0
  · rw [if_pos c0] at h
    unfold ztk at h
    by_cases q : (wrd f n s.1).1 = a
    · rw [if_pos q] at h
      exact same _ (zgo_t h g) rfl rfl
    · rw [if_neg q] at h
      exact (zer_t h g).elim
  rw [if_neg c0] at h
  by_cases c1 : c = 1
  · rw [if_pos c1] at h
    unfold znm at h
    by_cases q : (wrd f n s.1).1 = 30 ∧ 0 ≤ (lk (wrd f n s.1).2.2.2.1).1 ∧ (lk (wrd f n s.1).2.2.2.1).2.1 = a
    · rw [if_pos q] at h
      exact same _ (zgo_t h g) rfl rfl
    · rw [if_neg q] at h
      exact (zer_t h g).elim
  rw [if_neg c1] at h
  by_cases c2 : c = 2
  · rw [if_pos c2] at h
    obtain ⟨x, hx, b⟩ := h
    by_cases gx : x.1 = true
    · rw [if_pos gx] at b
      by_cases u : x.2.2.1 = (if a < 0 then s.2.2.2.2.2.1 else a)
      · rw [if_pos u] at b
        exact sum 1 x (by decide) hx gx b
      · rw [if_neg u] at b
        exact (zer_t b g).elim
    · rw [if_neg gx] at b
      exact (zer_t b g).elim
  rw [if_neg c2] at h
  by_cases c3 : c = 3
  · rw [if_pos c3] at h
    obtain ⟨x, hx, b⟩ := h
    by_cases gx : x.1 = true
    · rw [if_pos gx] at b
      exact sum 0 x (by decide) hx gx b
    · rw [if_neg gx] at b
      exact (zer_t b g).elim
  rw [if_neg c3] at h
  by_cases c4 : c = 4
  · rw [if_pos c4] at h
    unfold zbl at h
    by_cases q : (wrd f n s.1).1 = 123 ∧ op < 20
    · rw [if_pos q] at h
      obtain ⟨r1, x, b⟩ := h
      by_cases g1 : r1.1 = true
      · rw [if_pos g1] at b
        have t := hX _ _ _ _ x g1 hN hL k0
        exact znd_wf b g t.1 t.2.1 hK t.2.2 (fun z => absurd z (show ¬ (35 : Int) = 23 by decide))
      · rw [if_neg g1] at b
        rw [b] at g
        exact absurd g g1
    · rw [if_neg q] at h
      exact (zer_t h g).elim
  rw [if_neg c4] at h
  by_cases c5 : c = 5
  · rw [if_pos c5] at h
    unfold zac at h
    by_cases q : (wrd f n s.1).1 = 31 ∧ (wrd f n s.1).2.2.2.2.2 = false ∧ (wrd f n s.1).2.2.2.2.1 < 32000
    · rw [if_pos q] at h
      exact same _ (zgo_t h g) rfl rfl
    · rw [if_neg q] at h
      exact (zer_t h g).elim
  rw [if_neg c5] at h
  by_cases c6 : c = 6
  · rw [if_pos c6] at h
    by_cases q : (wrd f n s.1).1 = 18
    · rw [if_pos q] at h
      exact hX _ _ _ _ h g hN hL hK
    · rw [if_neg q] at h
      exact same s h rfl rfl
  rw [if_neg c6] at h
  by_cases c7 : c = 7
  · rw [if_pos c7] at h
    by_cases q : (wrd f n s.1).1 = 123
    · rw [if_pos q] at h
      exact hX _ _ _ _ h g hN hL hK
    · rw [if_neg q] at h
      exact same s h rfl rfl
  rw [if_neg c7] at h
  by_cases c8 : c = 8
  · rw [if_pos c8] at h
    by_cases q : (wrd f n s.1).1 = 125
    · rw [if_pos q] at h
      exact same s h rfl rfl
    · rw [if_neg q] at h
      exact hX _ _ _ _ h g hN hL hK
  rw [if_neg c8] at h
  by_cases c9 : c = 9
  · rw [if_pos c9] at h
    unfold zst at h
    by_cases q : isS (wrd f n s.1).1 = true
    · rw [if_pos q] at h
      obtain ⟨r1, x, b⟩ := h
      by_cases g1 : r1.1 = true
      · rw [if_pos g1] at b
        have t := hX _ _ _ _ x g1 hN hL k0
        refine znd_wf b g t.1 t.2.1 hK t.2.2 (fun z => ?_)
        have z' : (wrd f n s.1).1 = 23 := z
        rw [z'] at x
        have dd := zz_do x g1
        have q2 := dd.2
        obtain ⟨l, u, el, e0⟩ := q2
        have bb := hL l (by rw [el]; exact e0) (by rw [el])
        rw [el] at bb
        have ll := t.2.1.len
        have zl : (zin s).2.1.length = s.2.1.length := rfl
        exact ⟨dd.1, ⟨l, u, el, e0⟩, bb.1, Int.lt_of_lt_of_le bb.2 (by omega)⟩
      · rw [if_neg g1] at b
        rw [b] at g
        exact absurd g g1
    · rw [if_neg q] at h
      exact (zer_t h g).elim
  rw [if_neg c9] at h
  by_cases q : (wrd f n s.1).1 = 32
  · rw [if_pos q] at h
    exact same s h rfl rfl
  · rw [if_neg q] at h
    exact hX _ _ _ _ h g hN hL hK
theorem ZZ_wf (f : Int → Int) (n : Int) (lk : List Int → Int × Int × Int × Int) : ∀ k, ZWf lk (ZZ f n lk k) := by
  intro k
  induction k with
  | zero => exact fun _ _ _ _ h => False.elim h
  | succ k ih =>
    intro op l s r h g hN hL hK
    cases l with
    | nil =>
      rw [ZZ_n] at h
      rw [h]
      exact ⟨hN, PRE.refl _, hK⟩
    | cons i is =>
      rw [ZZ_c] at h
      obtain ⟨r1, a, b⟩ := h
      by_cases g1 : r1.1 = true
      · rw [if_pos g1] at b
        have t := zit_wf ih a g1 hN hL hK
        have t2 := ih _ _ _ _ b g t.1 (lkb_m hL t.2.1.len) t.2.2
        exact ⟨t2.1, t.2.1.tr t2.2.1, t2.2.2⟩
      · rw [if_neg g1] at b
        rw [b] at g
        exact absurd g g1
theorem ZI_wf {f : Int → Int} {n : Int} {lk : List Int → Int × Int × Int × Int} {op : Nat} {c a : Int} {s s' : ZS} (h : ZI f n lk op c a s (zok s')) (hN : NWf lk s.2.1) (hL : LkB lk s.2.1) (hK : KLt s) : NWf lk s'.2.1 ∧ PRE s.2.1 s'.2.1 ∧ KLt s' := by
  obtain ⟨k, h⟩ := h
  exact zit_wf (ZZ_wf f n lk k) h rfl hN hL hK
