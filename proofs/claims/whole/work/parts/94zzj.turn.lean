/-! a way that is due does not turn back, and goes over a thing once -/
/-- ports of the reference's plant -/
def RPn (z : MW) : Prop := (∀ e g : Nat, (e : Int) < 2 * pM z → (g : Int) < 2 * pM z → ¬ e = g → atM z e = atM z g → 0 ≤ atM z e → ¬ (z.1 171 e).toInt = (z.1 171 g).toInt) ∧ (∀ e : Nat, (e : Int) < 2 * pM z → 0 ≤ atM z e → ¬ tkM z (atM z e) → 0 ≤ (z.1 171 e).toInt ∧ (z.1 171 e).toInt < 4 ∧ (((z.1 163 (atM z e).toNat).toInt = 3 ∨ (z.1 163 (atM z e).toNat).toInt = 4) → (z.1 171 e).toInt < 3) ∧ (¬ (z.1 163 (atM z e).toNat).toInt = 3 → ¬ (z.1 163 (atM z e).toNat).toInt = 4 → ¬ (z.1 163 (atM z e).toNat).toInt = 6 → (z.1 171 e).toInt < 2))
theorem rp_n {z : MW} (h : RP z) (p24 : pM z ≤ 24) : RPn z := by
  have t : ∀ e : Nat, (e : Int) < 2 * pM z → (nI e).toInt = (e : Int) ∧ (nI e).toInt.toNat = e := fun e he => by
    have q : (nI e).toInt = (e : Int) := nI_toInt (by omega)
    exact ⟨q, by omega⟩
  have eP : P2 z = 2 * pM z := rfl
  refine ⟨fun e g he hg ne ea a0 => ?_, fun e he a0 nt => ?_⟩
  · have te := t e he
    have tg := t g hg
    have q := h.1 (nI e) (nI g) (by omega) (by omega) (by omega) (by omega) (by omega)
    unfold At Po at q
    rw [te.2, tg.2] at q
    exact q ea a0
  · have te := t e he
    have q := h.2 (nI e) (by omega) (by omega)
    unfold At Kd Po at q
    rw [te.2] at q
    exact q a0 nt
/-- what is held has two busy ends -/
def HBn (z : MW) : Prop := ∀ e : Nat, (e : Int) < 2 * pM z → 0 ≤ atM z e → ¬ unH z (atM z e) → ∃ a b : Nat, (a : Int) < 2 * pM z ∧ (b : Int) < 2 * pM z ∧ ¬ a = b ∧ atM z a = atM z e ∧ atM z b = atM z e ∧ ¬ frM z a ∧ ¬ frM z b
theorem ndt_c : ∀ k, k < 8 → ∀ a, a < 4 → ∀ b, b < 4 → ((a == b) || !(decide (a < pcx k)) || !(decide (b < pcx k)) || !(decide (k = 1 ∨ k = 2 ∨ k = 4)) || decide (0 ≤ (ndO 160 (16 * k + 4 * a + b)).toInt)) = true := by decide +kernel
/-- a valve of three or four ports passes between any two of them -/
theorem all_p {z : MW} (hr : RPn z) {a b : Nat} (ha : (a : Int) < 2 * pM z) (hb : (b : Int) < 2 * pM z) (ne : ¬ a = b) (ea : atM z b = atM z a) (a0 : 0 ≤ atM z a) (nt : ¬ tkM z (atM z a)) (kk : (z.1 163 (atM z a).toNat).toInt = 3 ∨ (z.1 163 (atM z a).toNat).toInt = 4 ∨ (z.1 163 (atM z a).toNat).toInt = 6) : ∃ n, LsS ((z.1 163 (atM z a).toNat) - (2 : Int32)) (z.1 171 a) (z.1 171 b) n ∧ ¬ n.toInt = -1 := by
  have pa := hr.2 a ha a0 nt
  have pb := hr.2 b hb (by omega) (by rw [ea]; exact nt)
  rw [ea] at pb
  have pn := hr.1 a b ha hb ne ea.symm a0
  have eK : nI ((z.1 163 (atM z a).toNat).toInt - 2).toNat = (z.1 163 (atM z a).toNat) - (2 : Int32) := by
    apply ti_inj
    rw [nI_toInt (by omega), ti_sub2 rfl (by decide : ((2 : Int32)).toInt = 2) (by omega) (by omega)]
    omega
  have px : (z.1 171 a).toInt.toNat < pcx ((z.1 163 (atM z a).toNat).toInt - 2).toNat ∧ (z.1 171 b).toInt.toNat < pcx ((z.1 163 (atM z a).toNat).toInt - 2).toNat := by
    rcases kk with k | k | k
    · rw [k, show pcx ((3 : Int) - 2).toNat = 3 by decide]
      have q1 := pa.2.2.1 (Or.inl k)
      have q2 := pb.2.2.1 (Or.inl k)
      omega
    · rw [k, show pcx ((4 : Int) - 2).toNat = 3 by decide]
      have q1 := pa.2.2.1 (Or.inr k)
      have q2 := pb.2.2.1 (Or.inr k)
      omega
    · rw [k, show pcx ((6 : Int) - 2).toNat = 4 by decide]
      omega
  have k8 : ((z.1 163 (atM z a).toNat).toInt - 2).toNat < 8 := by omega
  have ne2 : (z.1 171 a).toInt.toNat ≠ (z.1 171 b).toInt.toNat := by omega
  have a4 : (z.1 171 a).toInt.toNat < 4 := by omega
  have b4 : (z.1 171 b).toInt.toNat < 4 := by omega
  have ls := ndt_v k8 a4 b4 ne2 px.1 px.2
  rw [eK, nI_tn pa.1, nI_tn pb.1] at ls
  have c := ndt_c _ k8 _ a4 _ b4
  rw [beq_false_of_ne ne2, decide_eq_true px.1, decide_eq_true px.2, decide_eq_true (show ((z.1 163 (atM z a).toNat).toInt - 2).toNat = 1 ∨ ((z.1 163 (atM z a).toNat).toInt - 2).toNat = 2 ∨ ((z.1 163 (atM z a).toNat).toInt - 2).toNat = 4 by omega)] at c
  have c2 := of_decide_eq_true c
  exact ⟨_, ls, by omega⟩
theorem al_v {z : MW} {a b : Nat} {n : Int32} (h : AL z a b n) : 0 ≤ atM z a ∧ atM z b = atM z a ∧ ¬ b = a ∧ ¬ tkM z (atM z a) ∧ frM z b := ⟨h.1, h.2.1, h.2.2.1, h.2.2.2.1, h.2.2.2.2.1⟩
/-- no more ports than there are -/
theorem pig3 {a b c : Int} (ha : 0 ≤ a) (a2 : a < 2) (hb : 0 ≤ b) (b2 : b < 2) (hc : 0 ≤ c) (c2 : c < 2) (ab : ¬ a = b) (ac : ¬ a = c) (bc : ¬ b = c) : False := by omega
theorem pig4 {a b c d : Int} (ha : 0 ≤ a) (a2 : a < 3) (hb : 0 ≤ b) (b2 : b < 3) (hc : 0 ≤ c) (c2 : c < 3) (hd : 0 ≤ d) (d2 : d < 3) (ab : ¬ a = b) (ac : ¬ a = c) (ad : ¬ a = d) (bc : ¬ b = c) (bd : ¬ b = d) (cd : ¬ c = d) : False := by omega
theorem pig5 {a b c d e : Int} (ha : 0 ≤ a) (a2 : a < 4) (hb : 0 ≤ b) (b2 : b < 4) (hc : 0 ≤ c) (c2 : c < 4) (hd : 0 ≤ d) (d2 : d < 4) (he : 0 ≤ e) (e2 : e < 4) (ab : ¬ a = b) (ac : ¬ a = c) (ad : ¬ a = d) (ae : ¬ a = e) (bc : ¬ b = c) (bd : ¬ b = d) (be : ¬ b = e) (cd : ¬ c = d) (ce : ¬ c = e) (de : ¬ d = e) : False := by
  have ca : a = 0 ∨ a = 1 ∨ a = 2 ∨ a = 3 := by omega
  have cb : b = 0 ∨ b = 1 ∨ b = 2 ∨ b = 3 := by omega
  rcases ca with q | q | q | q <;> rcases cb with q' | q' | q' | q' <;> omega
/-- a, b, c one behind the other at a thing -/
theorem al3 {z : MW} (hr : RPn z) (hh : HBn z) (hk : ∀ t : Nat, (t : Int) < tM z → 0 ≤ (z.1 163 t).toInt) (at1 : ∀ e : Nat, (e : Int) < 2 * pM z → atM z e < tM z) {a b c : Nat} {n n' : Int32} (ha : (a : Int) < 2 * pM z) (hb : (b : Int) < 2 * pM z) (hc : (c : Int) < 2 * pM z) (fa : frM z a) (h : AL z a b n) (h' : AL z b c n') (ne : ¬ c = a) : ∃ m, AL z a c m := by
  have v := al_v h
  have v' := al_v h'
  have a0 := v.1
  have eb := v.2.1
  have ec : atM z c = atM z a := by rw [v'.2.1, eb]
  have pa := hr.2 a ha a0 v.2.2.2.1
  have pb := hr.2 b hb (by rw [eb]; exact a0) (by rw [eb]; exact v.2.2.2.1)
  have pc := hr.2 c hc (by rw [ec]; exact a0) (by rw [ec]; exact v.2.2.2.1)
  rw [eb] at pb
  rw [ec] at pc
  have nab := hr.1 a b ha hb (fun q => v.2.2.1 q.symm) eb.symm a0
  have nac := hr.1 a c ha hc (fun q => ne q.symm) ec.symm a0
  have nbc := hr.1 b c hb hc (fun q => v'.2.2.1 q.symm) v'.2.1.symm (by rw [eb]; exact a0)
  have h5 := h.2.2.2.2.2
  have h5' := h'.2.2.2.2.2
  rw [eb] at h5'
  rcases h5 with ⟨k1, p0, _⟩ | ⟨k1, ls, nn, un⟩
  · rcases h5' with ⟨_, p0', _⟩ | ⟨k1', _⟩
    · exact absurd (p0.trans p0'.symm) nab
    · exact absurd k1 k1'
  · by_cases u : unH z (atM z a)
    · by_cases kk : (z.1 163 (atM z a).toNat).toInt = 3 ∨ (z.1 163 (atM z a).toNat).toInt = 4 ∨ (z.1 163 (atM z a).toNat).toInt = 6
      · obtain ⟨m, lm, mn⟩ := all_p hr ha hc (fun q => ne q.symm) ec a0 v.2.2.2.1 kk
        exact ⟨m, a0, ec, ne, v.2.2.2.1, v'.2.2.2.2, Or.inr ⟨k1, lm, mn, Or.inl u⟩⟩
      · have q1 := pa.2.2.2 (fun q => kk (Or.inl q)) (fun q => kk (Or.inr (Or.inl q))) (fun q => kk (Or.inr (Or.inr q)))
        have q2 := pb.2.2.2 (fun q => kk (Or.inl q)) (fun q => kk (Or.inr (Or.inl q))) (fun q => kk (Or.inr (Or.inr q)))
        have q3 := pc.2.2.2 (fun q => kk (Or.inl q)) (fun q => kk (Or.inr (Or.inl q))) (fun q => kk (Or.inr (Or.inr q)))
        exact False.elim (pig3 pa.1 q1 pb.1 q2 pc.1 q3 nab nac nbc)
    · obtain ⟨x, y, hx, hy, nxy, ex, ey, fx, fy⟩ := hh a ha a0 u
      have px := hr.2 x hx (by rw [ex]; exact a0) (by rw [ex]; exact v.2.2.2.1)
      have py := hr.2 y hy (by rw [ey]; exact a0) (by rw [ey]; exact v.2.2.2.1)
      have d : ∀ g : Nat, (g : Int) < 2 * pM z → atM z g = atM z a → frM z g → ¬ (z.1 171 g).toInt = (z.1 171 x).toInt ∧ ¬ (z.1 171 g).toInt = (z.1 171 y).toInt := fun g hg eg fg => ⟨hr.1 g x hg hx (fun q => fx (by rw [← q]; exact fg)) (by rw [eg, ex]) (by rw [eg]; exact a0), hr.1 g y hg hy (fun q => fy (by rw [← q]; exact fg)) (by rw [eg, ey]) (by rw [eg]; exact a0)⟩
      have da := d a ha rfl fa
      have db := d b hb eb v.2.2.2.2
      have dc := d c hc ec v'.2.2.2.2
      have dxy := hr.1 x y hx hy nxy (by rw [ex, ey]) (by rw [ex]; exact a0)
      exact False.elim (pig5 pa.1 pa.2.1 pb.1 pb.2.1 pc.1 pc.2.1 px.1 px.2.1 py.1 py.2.1 nab nac da.1 da.2 nbc db.1 db.2 dc.1 dc.2 dxy)
/-- two passes over one thing -/
theorem al4 {z : MW} (hr : RPn z) (hh : HBn z) {a b c d : Nat} {n n' : Int32} (ha : (a : Int) < 2 * pM z) (hb : (b : Int) < 2 * pM z) (hc : (c : Int) < 2 * pM z) (hd : (d : Int) < 2 * pM z) (fa : frM z a) (fc : frM z c) (h : AL z a b n) (h' : AL z c d n') (ec : atM z c = atM z a) (nac : ¬ a = c) (nad : ¬ d = a) (nbc : ¬ b = c) (nbd : ¬ b = d) : ∃ m, AL z a d m := by
  have v := al_v h
  have v' := al_v h'
  have a0 := v.1
  have eb := v.2.1
  have ed : atM z d = atM z a := by rw [v'.2.1, ec]
  have pa := hr.2 a ha a0 v.2.2.2.1
  have pb := hr.2 b hb (by rw [eb]; exact a0) (by rw [eb]; exact v.2.2.2.1)
  have pc := hr.2 c hc (by rw [ec]; exact a0) (by rw [ec]; exact v.2.2.2.1)
  have pd := hr.2 d hd (by rw [ed]; exact a0) (by rw [ed]; exact v.2.2.2.1)
  rw [eb] at pb
  rw [ec] at pc
  rw [ed] at pd
  have xab := hr.1 a b ha hb (fun q => v.2.2.1 q.symm) eb.symm a0
  have xac := hr.1 a c ha hc nac ec.symm a0
  have xad := hr.1 a d ha hd (fun q => nad q.symm) ed.symm a0
  have xbc := hr.1 b c hb hc nbc (by rw [eb, ec]) (by rw [eb]; exact a0)
  have xbd := hr.1 b d hb hd nbd (by rw [eb, ed]) (by rw [eb]; exact a0)
  have xcd := hr.1 c d hc hd (fun q => v'.2.2.1 q.symm) (by rw [ec, ed]) (by rw [ec]; exact a0)
  have k6 : (z.1 163 (atM z a).toNat).toInt = 6 := by
    by_cases k : (z.1 163 (atM z a).toNat).toInt = 6
    · exact k
    · by_cases k34 : (z.1 163 (atM z a).toNat).toInt = 3 ∨ (z.1 163 (atM z a).toNat).toInt = 4
      · have q1 := pa.2.2.1 k34
        have q2 := pb.2.2.1 k34
        have q3 := pc.2.2.1 k34
        have q4 := pd.2.2.1 k34
        exact False.elim (pig4 pa.1 q1 pb.1 q2 pc.1 q3 pd.1 q4 xab xac xad xbc xbd xcd)
      · have q1 := pa.2.2.2 (fun q => k34 (Or.inl q)) (fun q => k34 (Or.inr q)) k
        have q2 := pb.2.2.2 (fun q => k34 (Or.inl q)) (fun q => k34 (Or.inr q)) k
        have q3 := pc.2.2.2 (fun q => k34 (Or.inl q)) (fun q => k34 (Or.inr q)) k
        exact False.elim (pig3 pa.1 q1 pb.1 q2 pc.1 q3 xab xac xbc)
  have u : unH z (atM z a) := by
    by_cases u : unH z (atM z a)
    · exact u
    · obtain ⟨x, y, hx, hy, nxy, ex, ey, fx, fy⟩ := hh a ha a0 u
      have px := hr.2 x hx (by rw [ex]; exact a0) (by rw [ex]; exact v.2.2.2.1)
      have dd : ∀ g : Nat, (g : Int) < 2 * pM z → atM z g = atM z a → frM z g → ¬ (z.1 171 g).toInt = (z.1 171 x).toInt := fun g hg eg fg => hr.1 g x hg hx (fun q => fx (by rw [← q]; exact fg)) (by rw [eg, ex]) (by rw [eg]; exact a0)
      have da := dd a ha rfl fa
      have db := dd b hb eb v.2.2.2.2
      have dc := dd c hc ec fc
      have de := dd d hd ed v'.2.2.2.2
      exact False.elim (pig5 pa.1 pa.2.1 pb.1 pb.2.1 pc.1 pc.2.1 pd.1 pd.2.1 px.1 px.2.1 xab xac xad da xbc xbd db xcd dc de)
  obtain ⟨m, lm, mn⟩ := all_p hr ha hd (fun q => nad q.symm) ed a0 v.2.2.2.1 (Or.inr (Or.inr k6))
  exact ⟨m, a0, ed, nad, v.2.2.2.1, v'.2.2.2.2, Or.inr ⟨(fun q => by rw [k6] at q; exact absurd q (by decide)), lm, mn, Or.inl u⟩⟩
theorem fr_xo {z : MW} {e : Nat} : frM z (xo e) ↔ frM z e := by
  unfold frM
  rw [xo_2]
/-- steps of a path -/
theorem pth_i {N : Nat} {sz : Nat → Int} {AD : Nat → Nat → Prop} {LL LP : Nat → Int} : ∀ (m e : Nat) (es : List Nat), e < N → Pth N sz AD LL LP m e es → es[0]? = some e ∧ (∀ (i a : Nat), es[i]? = some a → a < N) ∧ (∀ (i a b : Nat), es[i]? = some a → es[i + 1]? = some b → AD a b ∧ LL b = LL a - sz a ∧ LP b = LP a - 1 ∧ ¬ LL a = sz a) ∧ (∀ (i a : Nat), es[i]? = some a → es[i + 1]? = none → LL a = sz a) := by
  intro m
  induction m with
  | zero => exact fun _ _ _ h => False.elim h
  | succ m ih =>
    intro e es he h
    rcases h with ⟨h1, h2⟩ | ⟨h1, g, rest, gN, gl, gp, ad, gm, h2, h3⟩
    · rw [h2]
      refine ⟨rfl, fun i a hi => ?_, fun i a b hi hj => ?_, fun i a hi _ => ?_⟩
      · cases i with
        | zero => rw [← Option.some.inj hi]; exact he
        | succ i => cases hi
      · cases hj
      · cases i with
        | zero => rw [← Option.some.inj hi]; exact h1
        | succ i => cases hi
    · obtain ⟨q1, q2, q3, q4⟩ := ih g rest gN h3
      rw [h2]
      refine ⟨rfl, fun i a hi => ?_, fun i a b hi hj => ?_, fun i a hi hj => ?_⟩
      · cases i with
        | zero => rw [← Option.some.inj hi]; exact he
        | succ i => exact q2 i a hi
      · cases i with
        | zero =>
          have hj' : rest[0]? = some b := hj
          rw [q1] at hj'
          rw [← Option.some.inj hi, ← Option.some.inj hj']
          exact ⟨ad, gl, gp, h1⟩
        | succ i => exact q3 i a b hi hj
      · cases i with
        | zero =>
          have hj' : rest[0]? = none := hj
          rw [q1] at hj'
          cases hj'
        | succ i => exact q4 i a hi hj
/-- litres left fall along a path -/
theorem pth_d {es : List Nat} {LL sz : Nat → Int} (h3 : ∀ (i a b : Nat), es[i]? = some a → es[i + 1]? = some b → LL b = LL a - sz a) (s1 : ∀ (i a : Nat), es[i]? = some a → 1 ≤ sz a) : ∀ (d i a b : Nat), es[i]? = some a → es[i + d + 1]? = some b → LL b < LL a := by
  intro d
  induction d with
  | zero =>
    intro i a b hi hj
    have q := h3 i a b hi hj
    have := s1 i a hi
    omega
  | succ d ih =>
    intro i a b hi hj
    have l := (List.getElem?_eq_some_iff.mp hj).1
    have hc : es[i + d + 1]? = some (es[i + d + 1]'(by omega)) := List.getElem?_eq_getElem _
    have q1 := ih i a _ hi hc
    have q2 := h3 (i + d + 1) _ b hc hj
    have := s1 _ _ hc
    omega
/-- a way that is due does not turn back -/
theorem no_tb {z : MW} {y x : Int} {LL LP : Nat → Int} (hz : MZb z) (hr : RPn z) (hh : HBn z) (lx : LxF (NNd z) (szM z) (ADm z) (BsM z y) LL LP) (ty : tkM z y) (tx : tkM z x) (xy : ¬ x = y) {e0 m : Nat} {es : List Nat} (h0 : e0 < NNd z) (ex : atM z e0 = x) (pr : Pth (NNd z) (szM z) (ADm z) LL LP m e0 es) : ∀ (i a : Nat), es[i]? = some a → LL (xo a) = -1 ∨ LL a ≤ LL (xo a) := by
  have N2 := m_2P hz (oM_r z)
  obtain ⟨q1, q2, q3, q4⟩ := pth_i m e0 es h0 pr
  have xoN : ∀ e, e < NNd z → xo e < NNd z := fun e he => by
    have := xo_lt (e := e) (N := (pM z).toNat) (by omega)
    omega
  have sx : ∀ e, szM z (xo e) = szM z e := fun e => by
    unfold szM
    rw [xo_2]
  intro i
  induction i with
  | zero =>
    intro a ha
    rw [q1] at ha
    rw [← Option.some.inj ha]
    by_cases n : LL (xo e0) = -1
    · exact Or.inl n
    · rcases (lx.2.2.2 (xo e0) (xoN e0 h0) n).2.2 with ⟨b, _⟩ | ⟨g, _, ad, _⟩
      · have b1 := b.1
        rw [xo_x, ex] at b1
        exact absurd b1 xy
      · obtain ⟨_, n', al⟩ := ad
        rw [xo_x] at al
        have nt := (al_v al).2.2.2.1
        rw [ex] at nt
        exact absurd tx nt
  | succ i ih =>
    intro g hg
    have l := (List.getElem?_eq_some_iff.mp hg).1
    have he : es[i]? = some (es[i]'(by omega)) := List.getElem?_eq_getElem _
    generalize es[i]'(by omega) = e at he
    have s := q3 i e g he hg
    have eN := q2 i e he
    have gN := q2 (i + 1) g hg
    have ie := ih e he
    obtain ⟨fe, n1, al1⟩ := s.1
    have s1 := lx.1 e eN
    have s2 := lx.1 g gN
    by_cases n : LL (xo g) = -1
    · exact Or.inl n
    · refine Or.inr ?_
      by_cases c : LL g ≤ LL (xo g)
      · exact c
      · rcases (lx.2.2.2 (xo g) (xoN g gN) n).2.2 with ⟨b, _⟩ | ⟨h, hN, ad, hn, hl, _⟩
        · have b1 := b.1
          rw [xo_x, (al_v al1).2.1] at b1
          have nt := (al_v al1).2.2.2.1
          rw [b1] at nt
          exact absurd ty nt
        · obtain ⟨_, n2, al2⟩ := ad
          rw [xo_x] at al2
          rw [sx] at hl
          by_cases hx : h = xo e
          · rw [hx] at hl hn
            rcases ie with ie | ie
            · exact absurd ie hn
            · omega
          · obtain ⟨m', al'⟩ := al3 hr hh hz.2.2.2.1 hz.2.2.2.2.1 (by have := xoN e eN; omega) (by omega) (by omega) (fr_xo.mpr fe) al1 al2 hx
            have lq := (lx.2.2.1 e h eN hN ⟨fe, m', al'⟩ hn).2
            omega
theorem pth_n {N : Nat} {sz : Nat → Int} {AD : Nat → Nat → Prop} {Bs : Nat → Prop} {LL LP : Nat → Int} (lx : LxF N sz AD Bs LL LP) {m e0 : Nat} {es : List Nat} (h0 : e0 < N) (n0 : ¬ LL e0 = -1) (pr : Pth N sz AD LL LP m e0 es) : ∀ (i a : Nat), es[i]? = some a → ¬ LL a = -1 := by
  obtain ⟨q1, q2, q3, q4⟩ := pth_i m e0 es h0 pr
  intro i
  induction i with
  | zero =>
    intro a ha
    rw [q1] at ha
    rw [← Option.some.inj ha]
    exact n0
  | succ i ih =>
    intro g hg
    have l := (List.getElem?_eq_some_iff.mp hg).1
    have he : es[i]? = some (es[i]'(by omega)) := List.getElem?_eq_getElem _
    generalize es[i]'(by omega) = e at he
    have s := q3 i e g he hg
    have en := ih e he
    rcases (lx.2.2.2 e (q2 i e he) en).2.2 with ⟨_, b, _⟩ | ⟨g2, hg2, _, gn2, gl2, _⟩
    · exact absurd b s.2.2.2
    · have l2 := (lx.2.2.2 g2 hg2 gn2).1
      have s2 := s.2.1
      omega
theorem xo_ne (e : Nat) : ¬ xo e = e := by
  unfold xo
  split <;> omega
/-- a way that is due goes over a thing once -/
theorem once {z : MW} {y x : Int} {LL LP : Nat → Int} (hz : MZb z) (hr : RPn z) (hh : HBn z) (lx : LxF (NNd z) (szM z) (ADm z) (BsM z y) LL LP) (ty : tkM z y) (tx : tkM z x) (xy : ¬ x = y) {e0 m : Nat} {es : List Nat} (h0 : e0 < NNd z) (ex : atM z e0 = x) (n0 : ¬ LL e0 = -1) (pr : Pth (NNd z) (szM z) (ADm z) LL LP m e0 es) : ∀ (i d a1 b c1 d1 : Nat), es[i]? = some a1 → es[i + 1]? = some b → es[i + d + 1]? = some c1 → es[i + d + 1 + 1]? = some d1 → ¬ atM z b = atM z d1 := by
  have N2 := m_2P hz (oM_r z)
  have tb := no_tb hz hr hh lx ty tx xy h0 ex pr
  have nn := pth_n lx h0 n0 pr
  obtain ⟨q1, q2, q3, q4⟩ := pth_i m e0 es h0 pr
  have xoN : ∀ e, e < NNd z → xo e < NNd z := fun e he => by
    have := xo_lt (e := e) (N := (pM z).toNat) (by omega)
    omega
  have dec := pth_d (LL := LL) (sz := szM z) (fun i a b h1 h2 => (q3 i a b h1 h2).2.1) (fun i a h => lx.1 a (q2 i a h))
  intro i d a1 b c1 d1 hi1 hi2 hj1 hj2 eq
  have s := q3 i a1 b hi1 hi2
  have s' := q3 _ c1 d1 hj1 hj2
  obtain ⟨⟨f1, n1, al1⟩, s2, _, _⟩ := s
  obtain ⟨⟨f2, n2, al2⟩, s2', _, _⟩ := s'
  have aN := q2 _ _ hi1
  have bN := q2 _ _ hi2
  have cN := q2 _ _ hj1
  have dN := q2 _ _ hj2
  have l1 := dec d i a1 c1 hi1 hj1
  have l2 := dec (d + 1) i a1 d1 hi1 (by rw [show i + (d + 1) + 1 = i + d + 1 + 1 by omega]; exact hj2)
  have l3 := dec d (i + 1) b d1 hi2 (by rw [show i + 1 + d + 1 = i + d + 1 + 1 by omega]; exact hj2)
  have xinj : ∀ e g : Nat, xo e = xo g → e = g := fun e g h => by rw [← xo_x e, h, xo_x]
  have eC : atM z (xo c1) = atM z (xo a1) := by
    rw [← (al_v al2).2.1, ← (al_v al1).2.1]
    exact eq.symm
  have dn := nn _ _ hj2
  have cn := nn _ _ hj1
  have c1' : ¬ xo a1 = xo c1 := fun h => by
    rw [xinj _ _ h] at l1
    omega
  have c2' : ¬ d1 = xo a1 := fun h => by
    rcases tb i a1 hi1 with t | t
    · rw [← h] at t
      exact dn t
    · rw [← h] at t
      omega
  have c3' : ¬ b = xo c1 := fun h => by
    have hx : xo b = c1 := by rw [h, xo_x]
    cases d with
    | zero =>
      have e2 : b = c1 := by
        rw [show i + 0 + 1 = i + 1 by omega, hi2] at hj1
        exact Option.some.inj hj1
      rw [← e2] at h
      exact xo_ne b h.symm
    | succ d =>
      have l4 := dec d (i + 1) b c1 hi2 (by rw [show i + 1 + d + 1 = i + (d + 1) + 1 by omega]; exact hj1)
      rcases tb (i + 1) b hi2 with t | t
      · rw [hx] at t
        exact cn t
      · rw [hx] at t
        omega
  have c4' : ¬ b = d1 := fun h => by
    rw [h] at l3
    omega
  have a2 := xoN _ aN
  have c2 := xoN _ cN
  obtain ⟨m', al'⟩ := al4 hr hh (by omega) (by omega) (by omega) (by omega) (fr_xo.mpr f1) (fr_xo.mpr f2) al1 al2 eC c1' c2' c3' c4'
  have lq := (lx.2.2.1 a1 d1 aN dN ⟨f1, m', al'⟩ dn).2
  omega
