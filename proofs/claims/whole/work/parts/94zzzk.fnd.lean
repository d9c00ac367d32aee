/-! both sides find one way -/
theorem lx_cg {N : Nat} {sz sz' : Nat → Int} {AD AD' : Nat → Nat → Prop} {Bs Bs' : Nat → Prop} {LL LP : Nat → Int} (h1 : ∀ e, e < N → sz' e = sz e) (h2 : ∀ e g, e < N → g < N → (AD' e g ↔ AD e g)) (h3 : ∀ e, e < N → (Bs' e ↔ Bs e)) (h : LxF N sz AD Bs LL LP) : LxF N sz' AD' Bs' LL LP := by
  refine ⟨fun e he => by rw [h1 e he]; exact h.1 e he, fun e he b => ?_, fun e g he hg ad gn => ?_, fun e he n => ?_⟩
  · rw [h1 e he]
    exact h.2.1 e he ((h3 e he).mp b)
  · rw [h1 e he]
    exact h.2.2.1 e g he hg ((h2 e g he hg).mp ad) gn
  · have q := h.2.2.2 e he n
    rw [h1 e he]
    refine ⟨q.1, q.2.1, ?_⟩
    rcases q.2.2 with ⟨b, q1⟩ | ⟨g, hg, ad, q1⟩
    · exact Or.inl ⟨(h3 e he).mpr b, q1⟩
    · exact Or.inr ⟨g, hg, (h2 e g he hg).mpr ad, q1⟩
theorem pth_cg {N : Nat} {sz sz' : Nat → Int} {AD AD' : Nat → Nat → Prop} {LL LP : Nat → Int} (h1 : ∀ e, e < N → sz' e = sz e) (h2 : ∀ e g, e < N → g < N → (AD' e g ↔ AD e g)) : ∀ (m e : Nat) (es : List Nat), e < N → Pth N sz AD LL LP m e es → Pth N sz' AD' LL LP m e es := by
  intro m
  induction m with
  | zero => exact fun _ _ _ h => False.elim h
  | succ m ih =>
    intro e es he h
    show (LL e = sz' e ∧ es = [e]) ∨ (¬ LL e = sz' e ∧ ∃ g rest, g < N ∧ LL g = LL e - sz' e ∧ LP g = LP e - 1 ∧ AD' e g ∧ (∀ g', g' < g → LL g' = LL e - sz' e → LP g' = LP e - 1 → ¬ AD' e g') ∧ es = e :: rest ∧ Pth N sz' AD' LL LP m g rest)
    rw [h1 e he]
    rcases h with h | ⟨q1, g, rest, q2, q3, q4, q5, q6, q7, q8⟩
    · exact Or.inl h
    · exact Or.inr ⟨q1, g, rest, q2, q3, q4, (h2 e g he q2).mpr q5, fun g' hg' a b c => q6 g' hg' a b ((h2 e g' he (by omega)).mp c), q7, ih g rest q2 q8⟩
/-- the path that the reference has found, of a world z with what is busy -/
def PaM (z : MW) (N : Nat) (x y : Int) (es : List Nat) (w : MW) : Prop := ∃ LL LP, LxF N (szM z) (ADm z) (BsM z y) LL LP ∧ (∀ e, e < N → LL e ≤ 9600) ∧ ∃ e0 m : Nat, Pst N (atM z) LL LP x e0 ∧ Pth N (szM z) (ADm z) LL LP m e0 es ∧ LP e0 = es.length ∧ es.length ≤ 24 ∧ 1 ≤ es.length ∧ (w.1 127 39).toInt = es.length ∧ (∀ (i v : Nat), es[i]? = some v → w.1 191 i = nI v) ∧ WnL z es w
/-- z: busy is what open ways go over -/
def BsZ (w z : MW) : Prop := oB w z ∧ ∀ p, lb (z.2.1 127 40) p = true ↔ onW w p
/-- free on both sides -/
theorem fr_two {v w z : MW} (hr : HRq (mx v w)) (bz : BsZ w z) {e : Nat} (he : (e : Int) < 2 * pM w) : frC v e ↔ frM z e := by
  have hy := hr.2.2.2
  have c := hy.2.2.1.1 (e / 2) (by have q : pM (mx v w) = pM w := rfl; rw [q]; omega)
  have c' : (v.1 36 (e / 2)).toInt = 0 ↔ ¬ onN (mx v w) (e / 2) := c
  have o := on_e hy.1 hy.2.1 (e / 2)
  have o' : onW w (e / 2) ↔ onN (mx v w) (e / 2) := o
  have l := bz.2 (e / 2)
  unfold frC frM
  rw [c', ← o', ← l]
  cases lb (z.2.1 127 40) (e / 2) with
  | false =>
    constructor
    · intro _
      rfl
    · intro _ q
      cases q
  | true =>
    constructor
    · intro q
      exact absurd rfl q
    · intro q
      cases q
theorem ALf_c {fr fr' : Nat → Prop} {w z : MW} (h : z.1 = w.1) {a b : Nat} (hf : fr b ↔ fr' b) (n : Int32) : ALf fr' z a b n ↔ ALf fr w a b n := by
  have e1 : atM z = atM w := by
    funext e
    unfold atM
    rw [h]
  have e2 : tkM z = tkM w := by
    funext t
    unfold tkM
    rw [h]
  have e4 : unH z = unH w := by
    funext t
    unfold unH
    rw [h]
  unfold ALf
  rw [e1, e2, e4, h, hf]
/-- steps, sizes and ends alike -/
theorem ad_two {v w z : MW} (hr : HRq (mx v w)) (bz : BsZ w z) {e g : Nat} (he : (e : Int) < 2 * pM w) (hg : (g : Int) < 2 * pM w) : ADc (mx v w) e g ↔ ADm z e g := by
  have f1 : frC (mx v w) e ↔ frM z e := fr_two hr bz he
  have f2 : frC (mx v w) g ↔ frM z g := fr_two hr bz hg
  have eP : pC (mx v w) = pM w := hr.1.1.2.1
  unfold ADc ADm AL
  rw [f1, eP]
  have c := fun n => ALf_c (fr := frC (mx v w)) (fr' := frM z) (w := w) (z := z) bz.1.1 (a := xo e) (b := g) f2 n
  constructor
  · intro q
    obtain ⟨q1, _, n, q2⟩ := q
    exact ⟨q1, n, (c n).mpr q2⟩
  · intro q
    obtain ⟨q1, n, q2⟩ := q
    exact ⟨q1, hg, n, (c n).mp q2⟩
theorem sz_two {v w z : MW} (hr : HRq (mx v w)) (bz : BsZ w z) {e : Nat} (he : (e : Int) < 2 * pM w) : szC v e = szM z e := by
  have s := (hr.2.2.1.2.2.2.1 (e / 2) (by have q : pM (mx v w) = pM w := rfl; rw [q]; omega)).1
  have s' : v.1 12 (e / 2) = w.1 169 (e / 2) := s
  unfold szC szM
  rw [s', bz.1.1]
theorem at_two {v w z : MW} (hr : HRq (mx v w)) (bz : BsZ w z) {e : Nat} (he : (e : Int) < 2 * pM w) : atC v e = atM z e := by
  have s : atC v e = atM w e := (hr.1.1.2.2.2 e he).1
  rw [s]
  unfold atM
  rw [bz.1.1]
theorem bs_two {v w z : MW} (hr : HRq (mx v w)) (bz : BsZ w z) {y : Int} {e : Nat} (P : 0 ≤ pM w) (he : (e : Int) < 2 * pM w) : BsC v y e ↔ BsM z y e := by
  have x := xo_lt (e := e) (N := (pM w).toNat) (by omega)
  unfold BsC BsM
  rw [at_two hr bz (e := xo e) (by omega), fr_two hr bz he]
/-- what both found -/
theorem fn_two {v w z v5 w5 : MW} {x y : Int} {r : Int32} (hr : HRq (mx v w)) (bz : BsZ w z) (P : 0 ≤ pM w) (fc : FnC v (NNd w) (ADc (mx v w)) x y v5) (fm : FnM z (NNd w) x y r w5) : (r = 0 ∧ (v5.1 26 15).toInt = 0) ∨ (r = 1 ∧ ∃ es, PaM z (NNd w) x y es w5 ∧ (es.length : Int) = (v5.1 26 15).toInt ∧ ∀ (i e : Nat), es[i]? = some e → v5.1 39 i = nI (xo e)) := by
  have eN : ∀ e, e < NNd w → (e : Int) < 2 * pM w := fun e he => by
    unfold NNd at he
    omega
  obtain ⟨LL, LP, lx, hl, res⟩ := fm
  have h1 : ∀ e, e < NNd w → szC v e = szM z e := fun e he => sz_two hr bz (eN e he)
  have h2 : ∀ e g, e < NNd w → g < NNd w → (ADc (mx v w) e g ↔ ADm z e g) := fun e g he hg => ad_two hr bz (eN e he) (eN g hg)
  have lc := lx_cg (Bs' := BsC v y) h1 h2 (fun e he => bs_two hr bz P (eN e he)) lx
  have F := fc LL LP lc hl
  rcases res with ⟨er, _, no⟩ | ⟨er, e0, m, es, ps, pr, lp, l24, l1, p1, p2, wn⟩
  · refine Or.inl ⟨er, F.2 (fun e he ea => no e he ?_)⟩
    rw [← at_two hr bz (eN e he)]
    exact ea
  · refine Or.inr ⟨er, es, ⟨LL, LP, lx, hl, e0, m, ps, pr, lp, l24, l1, p1, p2, wn⟩, ?_⟩
    refine F.1 e0 m es ⟨ps.1, ?_, ps.2.2.1, fun g hg ag gn => ps.2.2.2 g hg ?_ gn⟩ (by rw [lp]; omega) (pth_cg h1 h2 m e0 es ps.1 pr)
    · rw [at_two hr bz (eN e0 ps.1)]
      exact ps.2.1
    · rw [← at_two hr bz (eN g hg)]
      exact ag
/-- the entries of a path as a function -/
def enL (es : List Nat) (i : Nat) : Nat := (es[i]?).getD 0
theorem enL_s {es : List Nat} {i : Nat} (h : i < es.length) : es[i]? = some (enL es i) := by
  unfold enL
  rw [List.getElem?_eq_getElem h]
  rfl
theorem enL_e {es : List Nat} {i e : Nat} (h : es[i]? = some e) : enL es i = e ∧ i < es.length := by
  refine ⟨?_, (List.getElem?_eq_some_iff.mp h).1⟩
  unfold enL
  rw [h]
  rfl
/-- what is known of the path -/
def PaF (w z w5 : MW) (a b : Int) (n : Nat) (en : Nat → Nat) : Prop := (1 ≤ n ∧ n ≤ 24) ∧ (w5.1 127 39).toInt = n ∧ (∀ i, i < n → w5.1 191 i = nI (en i) ∧ (en i : Int) < 2 * pM w ∧ frM z (en i)) ∧ atM w (en 0) = a ∧ atM w (xo (en (n - 1))) = b ∧ (∀ i, i + 1 < n → ∃ m, AL z (xo (en i)) (en (i + 1)) m) ∧ (∀ i j, i < n → j < n → en i / 2 = en j / 2 → i = j) ∧ (∀ i j, i + 1 < n → j + 1 < n → atM w (en (i + 1)) = atM w (en (j + 1)) → i = j) ∧ ∀ t : Nat, t < 20 → ((w5.1 192 t).toInt = -1 ∧ ∀ i, i + 1 < n → ¬ atM w (en (i + 1)) = t) ∨ ∃ i, i + 1 < n ∧ atM w (en (i + 1)) = t ∧ AL z (xo (en i)) (en (i + 1)) (w5.1 192 t)
theorem pa_f {w z w5 : MW} {x y : Int} {es : List Nat} (ez : z.1 = w.1) (hz : MZb z) (hr : RPn z) (hh : HBn z) (ty : tkM z y) (tx : tkM z x) (xy : ¬ x = y) (p : PaM z (NNd w) x y es w5) : PaF w z w5 x y es.length (enL es) := by
  have N2 := m_2P hz (oM_r z)
  have eP : pM z = pM w := by
    unfold pM
    rw [ez]
  have eN : NNd w = NNd z := by
    unfold NNd
    rw [eP]
  have eA : atM z = atM w := by
    funext e
    unfold atM
    rw [ez]
  obtain ⟨LL, LP, lx, hl, e0, m, ps, pr, lp, l24, l1, p1, p2, wn⟩ := p
  rw [eN] at lx hl ps pr
  obtain ⟨q1, q2, q3, q4⟩ := pth_i m e0 es ps.1 pr
  have nn := pth_n lx ps.1 ps.2.2.1 pr
  have tb := no_tb hz hr hh lx ty tx xy ps.1 ps.2.1 pr
  have on := once hz hr hh lx ty tx xy ps.1 ps.2.1 ps.2.2.1 pr
  have dec := pth_d (LL := LL) (sz := szM z) (fun i a b h1 h2 => (q3 i a b h1 h2).2.1) (fun i a h => lx.1 a (q2 i a h))
  have lt : ∀ i j, i < j → j < es.length → LL (enL es j) < LL (enL es i) := fun i j hij hj => dec (j - i - 1) i _ _ (enL_s (by omega)) (by rw [show i + (j - i - 1) + 1 = j by omega]; exact enL_s hj)
  have pip : ∀ i j, i < j → j < es.length → ¬ enL es i / 2 = enL es j / 2 := fun i j hij hj e => by
    have l := lt i j hij hj
    have c : enL es j = enL es i ∨ enL es j = xo (enL es i) := by
      unfold xo
      split <;> omega
    rcases c with c | c
    · rw [c] at l
      omega
    · have nj := nn j _ (enL_s hj)
      rcases tb i _ (enL_s (by omega)) with t | t
      · rw [← c] at t
        exact nj t
      · rw [← c] at t
        omega
  have thi : ∀ i j, i < j → j + 1 < es.length → ¬ atM z (enL es (i + 1)) = atM z (enL es (j + 1)) := fun i j hij hj => on i (j - i - 1) _ _ _ _ (enL_s (by omega)) (enL_s (by omega)) (by rw [show i + (j - i - 1) + 1 = j by omega]; exact enL_s (by omega)) (by rw [show i + (j - i - 1) + 1 + 1 = j + 1 by omega]; exact enL_s hj)
  have fre : ∀ i, i < es.length → frM z (enL es i) := fun i hi => by
    rcases (lx.2.2.2 _ (q2 i _ (enL_s hi)) (nn i _ (enL_s hi))).2.2 with ⟨b, _⟩ | ⟨g, _, ad, _⟩
    · exact b.2
    · exact ad.1
  refine ⟨⟨l1, l24⟩, p1, fun i hi => ⟨p2 i _ (enL_s hi), ?_, fre i hi⟩, ?_, ?_, fun i hi => ?_, fun i j hi hj e => ?_, fun i j hi hj e => ?_, fun t ht => ?_⟩
  · have := q2 i _ (enL_s hi)
    omega
  · rw [(enL_e q1).1, ← eA]
    exact ps.2.1
  · rw [← eA]
    have hi : es.length - 1 < es.length := by omega
    have la := q4 (es.length - 1) _ (enL_s hi) (List.getElem?_eq_none (by omega))
    rcases (lx.2.2.2 _ (q2 _ _ (enL_s hi)) (nn _ _ (enL_s hi))).2.2 with ⟨b, _⟩ | ⟨g, hg, _, gn, gl, _⟩
    · exact b.1
    · have := (lx.2.2.2 g hg gn).1
      omega
  · exact (q3 i _ _ (enL_s (by omega)) (enL_s hi)).1.2
  · by_cases c : i < j
    · exact absurd e (pip i j c hj)
    · by_cases c2 : j < i
      · exact absurd e.symm (pip j i c2 hi)
      · omega
  · rw [← eA] at e
    by_cases c : i < j
    · exact absurd e (thi i j c hj)
    · by_cases c2 : j < i
      · exact absurd e.symm (thi j i c2 hi)
      · omega
  · rw [← eA]
    rcases wn t ht with ⟨h1, h2⟩ | ⟨i, a, b, h1, h2, h3, h4, _⟩
    · exact Or.inl ⟨h1, fun i hi => h2 i _ _ (enL_s (by omega)) (enL_s hi)⟩
    · have ea := enL_e h1
      have eb := enL_e h2
      refine Or.inr ⟨i, eb.2, ?_, ?_⟩
      · rw [eb.1]
        exact h3
      · rw [ea.1, eb.1]
        exact h4
/-- what is held has two ends that are busy -/
theorem hb_n {v w z : MW} (hw : BND w) (hr : HRq (mx v w)) (bz : BsZ w z) : HBn z := by
  have P := hb_P hw
  have T := hb_T hw
  have ez := bz.1.1
  have hy := hr.2.2.2
  have nz := w_n hy.1
  have eP : pM z = pM w := by
    unfold pM
    rw [ez]
  have eA : atM z = atM w := by
    funext e
    unfold atM
    rw [ez]
  have eu : ∀ t, unH z t ↔ unH w t := fun t => by
    unfold unH
    rw [ez]
  intro e he a0 un
  rw [eP] at he
  rw [eA] at a0 un ⊢
  rw [eu] at un
  have at1 : atM w e < tM w := by
    have q := (hr.1.2.1.1 e (by have q : pC (mx v w) = pM w := hr.1.1.2.1; rw [q]; exact he)).1
    have q1 : atC (mx v w) e = atM w e := (hr.1.1.2.2.2 e he).1
    have q2 : tC (mx v w) = tM w := hr.1.1.1
    rw [q1, q2] at q
    exact q
  have ex : ∃ k : Nat, (k : Int) < (w.1 127 26).toInt ∧ ¬ (w.1 187 (20 * k + (atM w e).toNat)).toInt = -1 := by
    apply Classical.byContradiction
    intro no
    refine un (fun k hk => ?_)
    apply Classical.byContradiction
    intro n2
    exact no ⟨k, hk, n2⟩
  obtain ⟨k, hk, nk⟩ := ex
  have n26 : (w.1 127 26).toInt = nwy (mx v w) := nz.1.symm
  have kn : k < nwy (mx v w) := by omega
  obtain ⟨i, hi, ei⟩ := (hy.2.2.2.2.1.1 k (atM w e).toNat kn (by have q : tM (mx v w) = tM w := rfl; rw [q]; omega)).mp nk
  have ei' : atM w (ent (mx v w) k (i + 1)) = atM w e := by
    have q : atM w (ent (mx v w) k (i + 1)) = (((atM w e).toNat : Nat) : Int) := ei
    rw [q]
    omega
  have d := ((hy.2.2.2.1 k kn).2.2.1 i hi).1
  have d' : atM w (xo (ent (mx v w) k i)) = atM w (ent (mx v w) k (i + 1)) := d
  have e1 : ((ent (mx v w) k i : Nat) : Int) < 2 * pM w := (w_e hy.2.1 kn (show i < wln (mx v w) k by omega)).2
  have e2 : ((ent (mx v w) k (i + 1) : Nat) : Int) < 2 * pM w := (w_e hy.2.1 kn hi).2
  have x := xo_lt (e := ent (mx v w) k i) (N := (pM w).toNat) (by omega)
  have bus : ∀ g i', i' < wln (mx v w) k → ent (mx v w) k i' / 2 = g / 2 → ¬ frM z g := fun g i' hi' eg f => by
    have o : onW w (g / 2) := (on_e hy.1 hy.2.1 (g / 2)).mpr ⟨k, i', kn, hi', eg⟩
    have l := (bz.2 (g / 2)).mpr o
    have f' : lb (z.2.1 127 40) (g / 2) = false := f
    rw [f'] at l
    cases l
  rw [eP]
  refine ⟨ent (mx v w) k (i + 1), xo (ent (mx v w) k i), e2, by omega, fun q => ?_, ei', by rw [d', ei'], bus _ (i + 1) hi rfl, bus _ i (by omega) (by rw [xo_2])⟩
  have q2 : ent (mx v w) k (i + 1) / 2 = ent (mx v w) k i / 2 := by rw [q, xo_2]
  have := (hy.2.2.1.2 k (i + 1) k i kn hi kn (by omega) q2).2
  omega
theorem mz_b {v w : MW} (hw : BND w) (hr : HRq (mx v w)) : MZb w := by
  have P := hb_P hw
  have T := hb_T hw
  refine ⟨T, P, (bd_127_26 hw).2, fun t ht => ?_, fun e he => ?_, ?_, fun p hp => ?_⟩
  · have q : 0 ≤ (w.1 163 t).toInt ∧ (w.1 163 t).toInt ≤ 9 := (hr.1.1.2.2.1 t ht).1
    exact q.1
  · have q := (hr.1.2.1.1 e (by have q : pC (mx v w) = pM w := hr.1.1.2.1; rw [q]; exact he)).1
    have q1 : atC (mx v w) e = atM w e := (hr.1.1.2.2.2 e he).1
    have q2 : tC (mx v w) = tM w := hr.1.1.1
    rw [q1, q2] at q
    exact q
  · exact hr.2.2.2.2.2.2.2.1.2.1
  · exact (hr.2.2.1.2.2.2.1 p hp).2.1
/-- what the class's finding wants -/
theorem fz_v {v w : MW} (hv : BND v) (hw : BND w) (hr : HRq (mx v w)) : FZf v (NNd w) (ADc (mx v w)) := by
  have hy := hr.2.2.2
  have pb : PB (mx v w) := PB_b (BND_mx hv hw)
  have q := fzf_x hr.1.1 hr.1.2.1 pb hr.2.1.1 (ov_x hy.1 hy.2.2.2.2.1) hr.1.2.2.2 (fun p hp => by
    have eP : pC (mx v w) = pM (mx v w) := hr.1.1.2.1
    rw [eP] at hp
    have s := hr.2.2.1.2.2.2.1 p hp
    rw [s.1]
    exact s.2.1)
  have eN : (2 * pC (mx v w)).toNat = NNd w := by
    have eP : pC (mx v w) = pM w := hr.1.1.2.1
    rw [eP]
    rfl
  rw [eN] at q
  exact q
