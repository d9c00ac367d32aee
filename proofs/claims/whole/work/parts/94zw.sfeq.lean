/-! isSafe answers alike -/
def pcx (k : Nat) : Nat := if k = 1 ∨ k = 2 then 3 else if k = 4 then 4 else 2
theorem fptb : ∀ k, k < 8 → ∀ p, p < 10 → ∀ a, a < 4 → ∀ b, b < 4 → ((a == b) || !(decide (a < pcx k)) || !(decide (b < pcx k)) || (decide ((f_Mo_passes (nI k) (nI p) (nI a) (nI b)).toInt = 0) == !(mb ((stT 1001).getD (10 * k + p) 0) (4 * a + b)))) = true := by decide +kernel
theorem fpt (k : Nat) (hk : k < 8) (p : Nat) (hp : p < 10) (a : Nat) (ha : a < 4) (b : Nat) (hb : b < 4) (ne : a ≠ b) (h1 : a < pcx k) (h2 : b < pcx k) : (f_Mo_passes (nI k) (nI p) (nI a) (nI b)).toInt = 0 ↔ mb ((stT 1001).getD (10 * k + p) 0) (4 * a + b) = false := by
  have h := fptb k hk p hp a ha b hb
  rw [beq_false_of_ne ne, decide_eq_true h1, decide_eq_true h2] at h
  have h3 : decide ((f_Mo_passes (nI k) (nI p) (nI a) (nI b)).toInt = 0) = !(mb ((stT 1001).getD (10 * k + p) 0) (4 * a + b)) := beq_iff_eq.mp h
  constructor
  · intro q
    rw [decide_eq_true q] at h3
    cases z : mb ((stT 1001).getD (10 * k + p) 0) (4 * a + b) with
    | false => rfl
    | true =>
      rw [z] at h3
      cases h3
  · intro q
    rw [q] at h3
    exact of_decide_eq_true h3
theorem fpp : ∀ p, p < 10 → ∀ a, a < 2 → ∀ b, b < 2 → a ≠ b → (a = 0 ↔ mb ((stT 1001).getD (80 + p) 0) (4 * a + b) = true) := by decide +kernel
/-- the class's number of a kind of the reference -/
def kmp (K : Int) : Int := if K = 0 then 9 else if K = 1 then 8 else K - 2
/-- the plants of both sides are one, and so are the positions -/
def PLq (w : MW) : Prop := tC w = tM w ∧ pC w = pM w ∧ (∀ t : Nat, (t : Int) < tM w → (0 ≤ (w.1 163 t).toInt ∧ (w.1 163 t).toInt ≤ 9) ∧ kC w t = kmp (w.1 163 t).toInt ∧ w.1 16 t = w.1 167 t) ∧ (∀ e : Nat, (e : Int) < 2 * pM w → atC w e = atM w e ∧ (0 ≤ atM w e → ¬ tkM w (atM w e) → w.1 14 e = w.1 171 e ∧ poC w e < pcx (kC w (atM w e).toNat).toNat))
theorem tk_e {w : MW} (h : PLq w) {t : Int} (t0 : 0 ≤ t) (t1 : t < tM w) : tkC w t ↔ tkM w t := by
  have q := (h.2.2.1 t.toNat (by omega))
  unfold tkC tkM
  have k := q.2.1
  unfold kC kmp at k
  constructor
  · intro z
    rw [z] at k
    split at k
    · assumption
    · split at k <;> omega
  · intro z
    rw [if_pos z] at k
    exact k
theorem ps_e {w wM : MW} {v ps : Int32} (h : PLq w) (hb : PB w) (hx : PX w) (cM : ∀ c j, ¬ c = 167 → wM.1 c j = w.1 c j) (cP : ∀ t : Nat, (t : Int) < tM w → sgC w v ps t = PSt (kC w t) (wM.1 167 t).toInt ∧ 0 ≤ (wM.1 167 t).toInt ∧ (wM.1 167 t).toInt ≤ 9) {e g : Nat} (he : (e : Int) < 2 * pM w) (hg : (g : Int) < 2 * pM w) (a0 : 0 ≤ atM w e) (nt : ¬ tkM w (atM w e)) (ea : atM w g = atM w e) (ne : ¬ g = e) : psM wM e g ↔ psC w v ps e g := by
  have E := h.2.2.2 e he
  have G := h.2.2.2 g hg
  have al : atM w e < tM w := by
    rw [← E.1, ← h.1]
    exact (hx.1 e (by rw [h.2.1]; exact he)).1
  have ntC : ¬ tkC w (atC w e) := by
    rw [E.1, tk_e h a0 al]
    exact nt
  have pe := E.2 a0 nt
  have pg := G.2 (by omega) (by rw [ea]; exact nt)
  rw [ea] at pg
  have e14 := hb.2.2.2.2 e
  have g14 := hb.2.2.2.2 g
  have npo : ¬ poC w e = poC w g := fun z => ne (px_inj hx hb (by rw [h.2.1]; exact he) (by rw [h.2.1]; exact hg) (by rw [E.1]; exact a0) ntC (by rw [E.1, G.1]; exact ea) z.symm)
  have K := h.2.2.1 (atM w e).toNat (by omega)
  have C := cP (atM w e).toNat (by omega)
  have eat : atM wM e = atM w e := by
    unfold atM
    rw [cM 170 e (by decide)]
  have pe1 : (poC w e : Int) = (w.1 14 e).toInt := by unfold poC; omega
  have pg1 : (poC w g : Int) = (w.1 14 g).toInt := by unfold poC; omega
  have c1 := C.1
  rw [show (((atM w e).toNat : Nat) : Int) = atM w e by omega] at c1
  have c2 := C.2
  unfold psM psC
  rw [eat, cM 163 _ (by decide), cM 171 _ (by decide), cM 171 _ (by decide), E.1, c1, ← pe.1, ← pg.1]
  have kk := K.2.1
  unfold kmp at kk
  have nz : ¬ (w.1 163 (atM w e).toNat).toInt = 0 := nt
  rw [if_neg nz] at kk
  have e14n : nI (poC w e) = w.1 14 e := nI_tn e14.1
  have g14n : nI (poC w g) = w.1 14 g := nI_tn g14.1
  by_cases k1 : (w.1 163 (atM w e).toNat).toInt = 1
  · rw [if_pos k1] at kk
    have pe2 := pe.2
    have pg2 := pg.2
    rw [kk] at pe2 pg2 ⊢
    have px8 : pcx (8 : Int).toNat = 2 := by decide
    have T := fpp (wM.1 167 (atM w e).toNat).toInt.toNat (by omega) (poC w e) (by omega) (poC w g) (by omega) npo
    unfold PSt
    rw [show (10 * (8 : Int) + (wM.1 167 (atM w e).toNat).toInt).toNat = 80 + (wM.1 167 (atM w e).toNat).toInt.toNat by omega, ← T]
    constructor
    · intro q
      rcases q with q | q
      · omega
      · exact absurd k1 q.1
    · intro q
      exact Or.inl ⟨k1, by omega⟩
  · rw [if_neg k1] at kk
    have kN : kC w (atM w e).toNat = (((w.1 163 (atM w e).toNat).toInt - 2).toNat : Nat) := by omega
    have T := fpt ((w.1 163 (atM w e).toNat).toInt - 2).toNat (by omega) (wM.1 167 (atM w e).toNat).toInt.toNat (by omega) (poC w e) (by omega) (poC w g) (by omega) npo (by have := pe.2; rw [kN] at this; exact this) (by have := pg.2; rw [kN] at this; exact this)
    have eK : nI ((w.1 163 (atM w e).toNat).toInt - 2).toNat = (w.1 163 (atM w e).toNat) - (2 : Int32) := by
      apply ti_inj
      rw [nI_toInt (by omega), ti_sub2 rfl (by decide : ((2 : Int32)).toInt = 2) (by omega) (by omega)]
      omega
    rw [eK, nI_tn c2.1, e14n, g14n] at T
    rw [kN]
    unfold PSt
    rw [show (10 * ((((w.1 163 (atM w e).toNat).toInt - 2).toNat : Nat) : Int) + (wM.1 167 (atM w e).toNat).toInt).toNat = 10 * ((w.1 163 (atM w e).toNat).toInt - 2).toNat + (wM.1 167 (atM w e).toNat).toInt.toNat by omega]
    constructor
    · intro q
      rcases q with q | q
      · exact absurd q.1 k1
      · cases z : mb ((stT 1001).getD (10 * ((w.1 163 (atM w e).toNat).toInt - 2).toNat + (wM.1 167 (atM w e).toNat).toInt.toNat) 0) (4 * poC w e + poC w g) with
        | true => rfl
        | false => exact absurd (T.mpr z) q.2
    · intro q
      refine Or.inr ⟨k1, fun z => ?_⟩
      rw [T.mp z] at q
      cases q
theorem ed_e {w wM : MW} {v ps : Int32} (h : PLq w) (hb : PB w) (hx : PX w) (cM : ∀ c j, ¬ c = 167 → wM.1 c j = w.1 c j) (cP : ∀ t : Nat, (t : Int) < tM w → sgC w v ps t = PSt (kC w t) (wM.1 167 t).toInt ∧ 0 ≤ (wM.1 167 t).toInt ∧ (wM.1 167 t).toInt ≤ 9) (z y : Nat) : EdM wM z y ↔ EdC w v ps z y := by
  have eT : tM wM = tM w := by
    unfold tM
    rw [cM 127 4 (by decide)]
  have eP : pM wM = pM w := by
    unfold pM
    rw [cM 127 11 (by decide)]
  have eA : atM wM = atM w := by
    funext e
    unfold atM
    rw [cM 170 e (by decide)]
  have eK : tkM wM = tkM w := by
    funext t
    unfold tkM
    rw [cM 163 _ (by decide)]
  unfold EdM EdC Edg Edc
  rw [eT, eP, eA, eK, h.1, h.2.1]
  have al : ∀ e : Nat, (e : Int) < 2 * pM w → atM w e < tM w := fun e he => by
    rw [← (h.2.2.2 e he).1, ← h.1]
    exact (hx.1 e (by rw [h.2.1]; exact he)).1
  constructor
  · intro q
    obtain ⟨e, he, a0, q⟩ := q
    have ae := (h.2.2.2 e he).1
    refine ⟨e, he, by rw [ae]; exact a0, ?_⟩
    rw [ae, tk_e h a0 (al e he)]
    rcases q with q | ⟨q1, q2, g, hg, q3, q4, q5, q6⟩
    · exact Or.inl q
    · exact Or.inr ⟨q1, q2, g, hg, by rw [(h.2.2.2 g hg).1]; exact q3, q4, (ps_e h hb hx cM cP he hg a0 q1 q3 q4).mp q5, q6⟩
  · intro q
    obtain ⟨e, he, a0, q⟩ := q
    have ae := (h.2.2.2 e he).1
    rw [ae] at a0 q
    rw [tk_e h a0 (al e he)] at q
    refine ⟨e, he, a0, ?_⟩
    rcases q with q | ⟨q1, q2, g, hg, q3, q4, q5, q6⟩
    · exact Or.inl q
    · rw [(h.2.2.2 g hg).1] at q3
      exact Or.inr ⟨q1, q2, g, hg, q3, q4, (ps_e h hb hx cM cP he hg a0 q1 q3 q4).mpr q5, q6⟩
/-- where liquids flood from, on both sides -/
def SRr (w : MW) : Prop := (∀ y : Nat, (y : Int) < nsp w → 0 ≤ (w.1 194 y).toInt ∧ (w.1 194 y).toInt ≤ 14) ∧ (∀ l y : Nat, 1 ≤ l → l < 15 → Si w l y → SrC w l y) ∧ (∀ l y : Nat, 1 ≤ l → l < 15 → SrC w l y → Si w l y ∨ ∃ e : Nat, (e : Int) < 2 * pM w ∧ atM w e = y ∧ tkM w y ∧ ∃ x : Nat, (x : Int) = tM w + e / 2 ∧ Si w l x)
theorem fl_e {w wM : MW} {v ps : Int32} (h : PLq w) (hb : PB w) (hx : PX w) (cM : ∀ c j, ¬ c = 167 → wM.1 c j = w.1 c j) (cP : ∀ t : Nat, (t : Int) < tM w → sgC w v ps t = PSt (kC w t) (wM.1 167 t).toInt ∧ 0 ≤ (wM.1 167 t).toInt ∧ (wM.1 167 t).toInt ≤ 9) (sr : SRr w) {l : Nat} (l0 : 1 ≤ l) (l1 : l < 15) (x : Nat) : FlM wM l x ↔ FlC w v ps l x := by
  have T1 := hb.1
  have P1 := hb.2.1
  rw [h.1] at T1
  rw [h.2.1] at P1
  have en : nsp w = tM w + pM w := ti_add2 rfl rfl (by unfold tM pM at *; omega) (by unfold tM pM at *; omega)
  have eN : nsp wM = nsp w := by
    unfold nsp
    rw [cM 127 4 (by decide), cM 127 11 (by decide)]
  have eS : Si wM = Si w := by
    funext a y
    unfold Si
    rw [eN, cM 194 y (by decide)]
  have eE := ed_e h hb hx cM cP
  constructor
  · intro q
    refine rs_mono (fun y hy => rs_src (sr.2.1 l y l0 l1 (by rw [← eS]; exact hy))) (fun z y e => ⟨?_, (eE z y).mp e.2⟩) x q
    have := e.1
    omega
  · intro q
    refine rs_mono (fun y hy => ?_) (fun z y e => ⟨?_, (eE z y).mpr e.2⟩) x q
    · rcases sr.2.2 l y l0 l1 hy with s | ⟨e, he, ea, tk, x', ex, s⟩
      · exact rs_src (by rw [eS]; exact s)
      · refine rs_step (y := x') (rs_src (by rw [eS]; exact s)) ⟨by have := s.1; omega, (eE x' y).mpr ?_⟩
        refine ⟨e, by rw [h.2.1]; exact he, ?_, Or.inl ⟨?_, Or.inl ⟨by rw [h.1]; exact ex, ?_⟩⟩⟩
        · rw [(h.2.2.2 e he).1, ea]
          omega
        · rw [(h.2.2.2 e he).1, ea]
          have al : atM w e < tM w := by
            rw [← (h.2.2.2 e he).1, ← h.1]
            exact (hx.1 e (by rw [h.2.1]; exact he)).1
          exact (tk_e h (by omega) (by omega)).mpr tk
        · rw [(h.2.2.2 e he).1, ea]
    · obtain ⟨e', he, a0, ⟨_, r | r⟩ | ⟨_, r, _⟩⟩ := e.2
      · rw [h.1] at r
        rw [h.2.1] at he
        omega
      · have := (hx.1 e' he).1
        rw [h.1] at this
        omega
      · rw [h.1] at r
        rw [h.2.1] at he
        omega
theorem flM_n {wM : MW} (en : nsp wM = tM wM + pM wM) (at1 : ∀ e : Nat, (e : Int) < 2 * pM wM → atM wM e < tM wM) (p0 : 0 ≤ pM wM) {l x : Nat} (q : FlM wM l x) : (x : Int) < nsp wM := by
  refine rs_min (T := fun x => (x : Int) < nsp wM) (fun y hy => hy.1) (fun z y _ e => ?_) x q
  obtain ⟨e', he, a0, ⟨_, r | r⟩ | ⟨_, r, g, hg, _, _, _, r2⟩⟩ := e.2
  · have := at1 e' he
    show (y : Int) < nsp wM
    omega
  · show (y : Int) < nsp wM
    omega
  · show (y : Int) < nsp wM
    omega
/-- meetings are alike -/
theorem bd_e {w wM : MW} {v ps : Int32} (h : PLq w) (hb : PB w) (hx : PX w) (cM : ∀ c j, ¬ c = 167 → wM.1 c j = w.1 c j) (cP : ∀ t : Nat, (t : Int) < tM w → sgC w v ps t = PSt (kC w t) (wM.1 167 t).toInt ∧ 0 ≤ (wM.1 167 t).toInt ∧ (wM.1 167 t).toInt ≤ 9) (sr : SRr w) (mm : MM w) (ms : MSy w) (x a b : Nat) : BdM wM x a b ↔ BdC w v ps x a b := by
  have T1 := hb.1
  have P1 := hb.2.1
  rw [h.1] at T1
  rw [h.2.1] at P1
  have en : nsp w = tM w + pM w := ti_add2 rfl rfl (by unfold tM pM at *; omega) (by unfold tM pM at *; omega)
  have eN : nsp wM = nsp w := by
    unfold nsp
    rw [cM 127 4 (by decide), cM 127 11 (by decide)]
  have eT : tM wM = tM w := by
    unfold tM
    rw [cM 127 4 (by decide)]
  have eP : pM wM = pM w := by
    unfold pM
    rw [cM 127 11 (by decide)]
  have eA : atM wM = atM w := by
    funext e
    unfold atM
    rw [cM 170 e (by decide)]
  have mt : 1 ≤ a → a < b → b < 15 → (Mt wM a b ↔ mb (w.1 22 b) a = true) := fun a0 ab b1 => by
    have m := mm a b a0 (by omega) (by omega) (by omega)
    rw [ms a b a0 (by omega) (by omega) (by omega)] at m
    unfold Mt
    rw [cM 175 _ (by decide)]
    constructor
    · intro q
      rcases q with q | q
      · omega
      · cases z : mb (w.1 22 b) a with
        | true => rfl
        | false => exact absurd (m.mp z) q.2.2
    · intro q
      refine Or.inr ⟨by omega, by omega, fun z => ?_⟩
      rw [m.mpr z] at q
      cases q
  unfold BdM Bd BdC
  constructor
  · intro q
    obtain ⟨q1, q2, q3, q4, q5, q6, q7⟩ := q
    have b15 : b < 15 := by
      by_cases z : b = 15
      · obtain ⟨y, hy⟩ := rea_s q6
        have h1 := hy.1
        have h2 := hy.2
        rw [eN] at h1
        rw [cM 194 y (by decide), z] at h2
        have := (sr.1 y h1).2
        omega
      · omega
    refine ⟨by omega, q2, q3, b15, (fl_e h hb hx cM cP sr q2 (by omega) x).mp q5, (fl_e h hb hx cM cP sr (by omega) b15 x).mp q6, ?_⟩
    cases z : mb (w.1 22 b) a with
    | false => rfl
    | true => exact absurd ((mt q2 q3 b15).mpr z) q7
  · intro q
    obtain ⟨q1, q2, q3, q4, q5, q6, q7⟩ := q
    have f5 := (fl_e h hb hx cM cP sr q2 (by omega) x).mpr q5
    have f6 := (fl_e h hb hx cM cP sr (by omega) q4 x).mpr q6
    have xn := flM_n (by omega) (fun e he => by
      rw [eA, eT]
      rw [eP] at he
      rw [← (h.2.2.2 e he).1, ← h.1]
      exact (hx.1 e (by rw [h.2.1]; exact he)).1) (by omega) f5
    refine ⟨xn, q2, q3, by omega, f5, f6, fun z => ?_⟩
    rw [(mt q2 q3 q4).mp z] at q7
    cases q7
theorem lb_e {w wM : MW} {v ps : Int32} (e : ∀ x a b, BdM wM x a b ↔ BdC w v ps x a b) (x a b : Nat) : LbM wM x a b ↔ LbC w v ps x a b := by
  unfold LbM LBd LbC
  show (BdM wM x a b ∧ ∀ x' a' b', BdM wM x' a' b' → _) ↔ _
  constructor
  · intro q
    exact ⟨(e x a b).mp q.1, fun x' a' b' r => q.2 x' a' b' ((e x' a' b').mpr r)⟩
  · intro q
    exact ⟨(e x a b).mpr q.1, fun x' a' b' r => q.2 x' a' b' ((e x' a' b').mp r)⟩
theorem cl_e {w wM : MW} {v ps : Int32} (e : ∀ x a b, BdM wM x a b ↔ BdC w v ps x a b) : clM wM ↔ clC w v ps := ⟨fun q x a b r => q x a b ((e x a b).mpr r), fun q x a b r => q x a b ((e x a b).mp r)⟩
theorem cP_0 {w : MW} (h : PLq w) (hb : PB w) (t : Nat) (ht : (t : Int) < tM w) : sgC w (-1) 0 t = PSt (kC w t) (w.1 167 t).toInt ∧ 0 ≤ (w.1 167 t).toInt ∧ (w.1 167 t).toInt ≤ 9 := by
  have k := h.2.2.1 t ht
  have p := hb.2.2.2.1 t (by rw [h.1]; exact ht)
  rw [k.2.2] at p
  refine ⟨?_, p⟩
  unfold sgC
  rw [m1_i, if_neg (by omega), show ((t : Int)).toNat = t by omega, sg_t hb (by rw [h.1]; exact ht)]
  unfold qC
  rw [k.2.2]
theorem cP_t {w : MW} (h : PLq w) (hb : PB w) {t0 p0 : Nat} (h0 : (t0 : Int) < tM w) (hp : p0 < 10) (t : Nat) (ht : (t : Int) < tM w) : sgC w (nI t0) (PSt (kC w t0) p0) t = PSt (kC w t) ((Cf w t0 p0).1 167 t).toInt ∧ 0 ≤ ((Cf w t0 p0).1 167 t).toInt ∧ ((Cf w t0 p0).1 167 t).toInt ≤ 9 := by
  have T1 := hb.1
  rw [h.1] at T1
  have n0 : (nI t0).toInt = (t0 : Int) := nI_toInt (by omega)
  have np : (nI p0).toInt = (p0 : Int) := nI_toInt (by omega)
  unfold Cf
  rw [sI_if]
  by_cases q : t = t0
  · rw [if_pos q, np]
    refine ⟨?_, by omega, by omega⟩
    unfold sgC
    rw [n0, if_pos (by omega), q]
  · rw [if_neg q]
    have c := cP_0 h hb t ht
    refine ⟨?_, c.2⟩
    rw [← c.1]
    unfold sgC
    rw [n0, m1_i, if_neg (by omega), if_neg (by omega)]
theorem tb_5b : ∀ k, k < 8 → ∀ q, q < 10 → ∀ p, p < 5 → ∀ n, n < 5 → (decide (((((stT 1001).getD (10 * k + (p + 5)) 0) &&& (((stT 1001).getD (10 * k + q) 0) ^^^ ((-1) : Int32))) &&& ((stT 1002).getD n 0)).toInt = 0) || decide ((stT 1001).getD (10 * k + (p + 5)) 0 = (stT 1001).getD (10 * k + (p + 4)) 0)) = true := by decide +kernel
theorem tb_5 (k : Nat) (hk : k < 8) (q : Nat) (hq : q < 10) (p : Nat) (hp : p < 10) (h5 : 5 ≤ p) (n : Nat) (hn : n < 5) (nz : ¬ ((((stT 1001).getD (10 * k + p) 0) &&& (((stT 1001).getD (10 * k + q) 0) ^^^ ((-1) : Int32))) &&& ((stT 1002).getD n 0)).toInt = 0) : (stT 1001).getD (10 * k + p) 0 = (stT 1001).getD (10 * k + (p - 1)) 0 := by
  have h := tb_5b k hk q hq (p - 5) (by omega) n hn
  rw [show p - 5 + 5 = p by omega, show p - 5 + 4 = p - 1 by omega, decide_eq_false nz] at h
  exact of_decide_eq_true h
theorem tb_q : ∀ k, k < 8 → ∀ q, q < 10 → ∀ n, n < 5 → ((((stT 1001).getD (10 * k + q) 0) &&& (((stT 1001).getD (10 * k + q) 0) ^^^ ((-1) : Int32))) &&& ((stT 1002).getD n 0)).toInt = 0 := by decide +kernel
theorem pst_n {k : Int} (k0 : 0 ≤ k) (p : Nat) : PSt k p = (stT 1001).getD (10 * k.toNat + p) 0 := by
  unfold PSt
  rw [show (10 * k + (p : Int)).toNat = 10 * k.toNat + p by omega]
/-- what the class looks at is what the reference tries -/
theorem vst_vis {w : MW} (h : PLq w) (hb : PB w) (h11 : ∀ t : Nat, 0 ≤ (w.1 11 t).toInt) {t p : Nat} (v : vst w t p) : vis w t p := by
  obtain ⟨⟨v1, v2, v3, v4⟩, v5, v6⟩ := v
  have ht : (t : Int) < tM w := by rw [← h.1]; exact v1
  have k := h.2.2.1 t ht
  have k9 := hb.2.2.1 t v1
  have q9 := hb.2.2.2.1 t v1
  have ke : kC w t = (w.1 9 t).toInt := rfl
  have qe : qC w t = (w.1 16 t).toInt := rfl
  have m4 : mpt w t < 5 ∧ 0 ≤ mpt w t := by
    have := h11 t
    unfold mpt
    split <;> omega
  have kk := k.2.1
  unfold kmp at kk
  have K2 : 2 ≤ (w.1 163 t).toInt ∧ kC w t = (w.1 163 t).toInt - 2 := by
    split at kk
    · omega
    · split at kk <;> omega
  have o1 : oth w t p = if (((PSt (kC w t) p) &&& ((PSt (kC w t) (qC w t)) ^^^ ((-1) : Int32))) &&& ((stT 1002).getD (mpt w t).toNat 0)).toInt = 0 then 0 else PSt (kC w t) p := by
    unfold oth
    rw [if_neg (by omega), if_neg v4]
  have eQ : PSt (kC w t) (qC w t) = (stT 1001).getD (10 * (kC w t).toNat + (qC w t).toNat) 0 := by
    rw [← pst_n (by omega), show (((qC w t).toNat : Nat) : Int) = qC w t by omega]
  have nz : ¬ (((PSt (kC w t) p) &&& ((PSt (kC w t) (qC w t)) ^^^ ((-1) : Int32))) &&& ((stT 1002).getD (mpt w t).toNat 0)).toInt = 0 := fun z => by
    rw [o1, if_pos z] at v5
    exact v5 i_0
  rw [pst_n (by omega), eQ] at nz
  refine ⟨ht, K2.1, ?_, fun z => ?_, fun z => v4 ⟨by omega, z.2⟩⟩
  · by_cases p5 : p < 5
    · exact p5
    · have e := tb_5 (kC w t).toNat (by omega) (qC w t).toNat (by omega) p v2 (by omega) (mpt w t).toNat (by omega) nz
      rcases v6 with v6 | v6
      · omega
      · refine absurd ?_ v6
        have o2 : oth w t (p - 1) = if (((PSt (kC w t) ((p - 1 : Nat) : Int)) &&& ((PSt (kC w t) (qC w t)) ^^^ ((-1) : Int32))) &&& ((stT 1002).getD (mpt w t).toNat 0)).toInt = 0 then 0 else PSt (kC w t) ((p - 1 : Nat) : Int) := by
          unfold oth
          rw [if_neg (by omega), if_neg (fun z => by omega)]
        rw [o1, o2, pst_n (by omega) p, pst_n (by omega) (p - 1), e]
  · rw [← k.2.2] at z
    refine nz ?_
    rw [show p = (qC w t).toNat by omega]
    exact tb_q (kC w t).toNat (by omega) (qC w t).toNat (by omega) (mpt w t).toNat (by omega)
/-- the answers of both isSafe, and what danger tells -/
theorem sf_eq {w w1 w2 : MW} {r r' : Int32} (h : PLq w) (hb : PB w) (hx : PX w) (h11 : ∀ t : Nat, 0 ≤ (w.1 11 t).toInt) (sr : SRr w) (mm : MM w) (ms : MSy w) (c : SfC w r w1) (m : SfM w r' w2) : (r = 1 ∧ r' = 1 ∧ (w1.1 42 6).toInt = 0 ∧ w2.1 = w.1) ∨ (r = 0 ∧ r' = 0 ∧ ∃ f x a b : Int32, w2.1 = (dgW w f x a b).1 ∧ w1.1 42 6 = f ∧ w1.1 42 7 = x ∧ w1.1 42 8 = a ∧ w1.1 42 9 = b) := by
  have b0 : ∀ x a b, BdM w x a b ↔ BdC w (-1) 0 x a b := bd_e h hb hx (fun _ _ _ => rfl) (cP_0 h hb) sr mm ms
  have bt' : ∀ t p : Nat, (t : Int) < tM w → p < 10 → ∀ x a b, BdM (Cf w t p) x a b ↔ BdC w (nI t) (PSt (kC w t) p) x a b := fun t p ht hp => bd_e h hb hx (fun c j hc => by unfold Cf; rw [sI_oth _ _ _ _ _ _ hc]) (cP_t h hb ht hp) sr mm ms
  have vc : ∀ t p, vis w t p → visC w t p := fun t p v => by
    have k := h.2.2.1 t v.1
    have kk := k.2.1
    have v2 := v.2.1
    unfold kmp at kk
    rw [if_neg (by omega), if_neg (by omega)] at kk
    exact ⟨by rw [h.1]; exact v.1, by have := v.2.2.1; omega, by have := k.1.2; omega, fun z => v.2.2.2.2 ⟨by have := z.1; omega, z.2⟩⟩
  obtain ⟨_, m⟩ := m
  rcases c with ⟨c1, c2, c3, c4⟩ | ⟨c1, c7, c8, c9, c⟩
  · rcases m with ⟨m1, m2, m3, m4⟩ | ⟨m1, f, x, a, b, m2, m3, _⟩
    · exact Or.inl ⟨c1, m1, c2, m2⟩
    · rcases m3 with ⟨_, m3⟩ | ⟨_, t, p, _, v, _, m3⟩
      · exact absurd ((b0 _ _ _).mp m3.1) (c3 _ _ _)
      · have v' := vc t p v
        exact absurd ((bt' t p v.1 v'.2.1 _ _ _).mp m3.1) (c4 t p v' _ _ _)
  · rcases m with ⟨m1, m2, m3, m4⟩ | ⟨m1, f, x, a, b, m2, m3, x0, a0, b0'⟩
    · rcases c with ⟨_, c⟩ | ⟨_, t, p, _, v, _, c⟩
      · exact absurd ((b0 _ _ _).mpr c.1) (m3 _ _ _)
      · have v' := vst_vis h hb h11 v
        exact absurd ((bt' t p v'.1 v.1.2.1 _ _ _).mpr c.1) (m4 t p v' _ _ _)
    · refine Or.inr ⟨c1, m1, f, x, a, b, m2, ?_⟩
      have fin : f.toInt = (w1.1 42 6).toInt ∧ x.toInt.toNat = (w1.1 42 7).toInt.toNat ∧ a.toInt.toNat = (w1.1 42 8).toInt.toNat ∧ b.toInt.toNat = (w1.1 42 9).toInt.toNat := by
        rcases c with ⟨cf, c⟩ | ⟨cc, t, p, cf, v, cl, c⟩
        · rcases m3 with ⟨mf, m3⟩ | ⟨mc, _⟩
          · have u := lbd_u m3 ((lb_e b0 _ _ _).mpr c)
            exact ⟨by omega, u⟩
          · exact absurd ((b0 _ _ _).mpr c.1) (mc _ _ _)
        · rcases m3 with ⟨mf, m3⟩ | ⟨mc, t', p', mf, v', ml, m3⟩
          · exact absurd ((b0 _ _ _).mp m3.1) (cc _ _ _)
          · have vv := vst_vis h hb h11 v
            have vv' := vc t' p' v'
            have tp : t = t' ∧ p = p' := by
              by_cases l1 : t < t' ∨ (t = t' ∧ p < p')
              · exact absurd ((bt' t p vv.1 v.1.2.1 _ _ _).mpr c.1) (ml t p vv l1 _ _ _)
              · by_cases l2 : t' < t ∨ (t' = t ∧ p' < p)
                · exact absurd ((bt' t' p' v'.1 vv'.2.1 _ _ _).mp m3.1) (cl t' p' vv' l2 _ _ _)
                · omega
            obtain ⟨e1, e2⟩ := tp
            rw [← e1, ← e2] at m3 mf
            have u := lbd_u m3 ((lb_e (bt' t p vv.1 v.1.2.1) _ _ _).mpr c)
            exact ⟨by omega, u⟩
      exact ⟨ti_inj (by omega), ti_inj (by omega), ti_inj (by omega), ti_inj (by omega)⟩
