/-! what a sum comes to -/
/-- an operation; a division by nothing is wrong, at e -/
def opx (c : Int) (e : Nat) (x y : Int64) : Sum Nat Int64 :=
  if c = 42 then Sum.inr ((x * y) / (1000 : Int64)) else if c = 43 then Sum.inr (x + y) else if c = 45 then Sum.inr (x - y) else
  if c = 47 then (if (lg_cmp y (0 : Int64)).toInt = 0 then Sum.inl e else Sum.inr ((x * (1000 : Int64)) / y)) else
  if c = 60 then Sum.inr (if 0 ≤ (lg_cmp x y).toInt then 0 else 1000) else if c = 61 then Sum.inr (if (lg_cmp x y).toInt = 0 then 1000 else 0) else Sum.inr (if (lg_cmp x y).toInt ≤ 0 then 0 else 1000)
def evN (e : Nat) (d : Nod) (val : Nat → Int64) (ev : Nat → Sum Nat Int64) : Sum Nat Int64 :=
  if d.1 = 31 then Sum.inr (Int64.ofInt d.2.2.1) else if d.1 = 30 then Sum.inr (val d.2.1.toNat) else
  match d.2.2.2 with
  | [a] => (match ev a with | Sum.inl z => Sum.inl z | Sum.inr x => Sum.inr (-x))
  | [a, b] => (match ev a with | Sum.inl z => Sum.inl z | Sum.inr x => (match ev b with | Sum.inl z => Sum.inl z | Sum.inr y => opx d.1 e x y))
  | _ => Sum.inr 0
/-- the value of the tree at e, or where it is wrong -/
def evx (ns : List Nod) (val : Nat → Int64) : Nat → Nat → Sum Nat Int64
  | 0 => fun _ => Sum.inr 0
  | k + 1 => fun e => match ns[e]? with
    | some d => evN e d val (evx ns val k)
    | none => Sum.inr 0
theorem evx_u {ns : List Nod} {val : Nat → Int64} {k e : Nat} {d : Nod} (h : ns[e]? = some d) : evx ns val (k + 1) e = evN e d val (evx ns val k) := by
  show (match ns[e]? with | some d => evN e d val (evx ns val k) | none => Sum.inr 0) = _
  rw [h]
theorem ev_31 {e : Nat} {d : Nod} {val : Nat → Int64} {ev : Nat → Sum Nat Int64} (h : d.1 = 31) : evN e d val ev = Sum.inr (Int64.ofInt d.2.2.1) := if_pos h
theorem ev_30 {e : Nat} {d : Nod} {val : Nat → Int64} {ev : Nat → Sum Nat Int64} (h : d.1 = 30) : evN e d val ev = Sum.inr (val d.2.1.toNat) := by
  unfold evN
  rw [if_neg (by omega), if_pos h]
theorem ev_34 {e a : Nat} {d : Nod} {val : Nat → Int64} {ev : Nat → Sum Nat Int64} (h : d.1 = 34) (hk : d.2.2.2 = [a]) : evN e d val ev = (match ev a with | Sum.inl z => Sum.inl z | Sum.inr x => Sum.inr (-x)) := by
  unfold evN
  rw [if_neg (by omega), if_neg (by omega), hk]
theorem ev_op {e a b : Nat} {d : Nod} {val : Nat → Int64} {ev : Nat → Sum Nat Int64} (h : ¬ d.1 = 31 ∧ ¬ d.1 = 30) (hk : d.2.2.2 = [a, b]) : evN e d val ev = (match ev a with | Sum.inl z => Sum.inl z | Sum.inr x => (match ev b with | Sum.inl z => Sum.inl z | Sum.inr y => opx d.1 e x y)) := by
  unfold evN
  rw [if_neg h.1, if_neg h.2, hk]
/-- the class's operations -/
theorem ap_x {w : MW} {a : Int32} {c : Int} {e : Nat} {x y : Int64} {Q : Int64 → MW → Prop} (h : p_Ru_apply w a x y Q) (ha : a.toInt = c) (hc : c = 42 ∨ c = 43 ∨ c = 45 ∨ c = 47 ∨ c = 60 ∨ c = 61 ∨ c = 62) (h0 : c = 47 → ¬ (lg_cmp y (0 : Int64)).toInt = 0) : ∃ r, opx c e x y = Sum.inr r ∧ Q r w := by
  rw [p_Ru_apply.eq_1, ha] at h
  rcases hc with q | q | q | q | q | q | q
  · refine ⟨_, ?_, (h.1 q)⟩
    unfold opx
    rw [if_pos q]
  · refine ⟨_, ?_, ((h.2 (by omega)).1 q)⟩
    unfold opx
    rw [if_neg (by omega), if_pos q]
  · refine ⟨_, ?_, ((((h.2 (by omega)).2 (by omega)).2 (by omega)).1 q)⟩
    unfold opx
    rw [if_neg (by omega), if_neg (by omega), if_pos q]
  · refine ⟨_, ?_, (((((((h.2 (by omega)).2 (by omega)).2 (by omega)).2 (by omega)).2 (by omega)).1 q).1 (h0 q)).2⟩
    unfold opx
    rw [if_neg (by omega), if_neg (by omega), if_neg (by omega), if_pos q, if_neg (h0 q)]
  · have t := (((((((((((((((((((h.2 (by omega)).2 (by omega)).2 (by omega)).2 (by omega)).2 (by omega)).2 (by omega)).2 (by omega)).2 (by omega)).2 (by omega)).2 (by omega)).2 (by omega)).2 (by omega)).2 (by omega)).2 (by omega)).2 (by omega)).2 (by omega)).2 (by omega)).2 (by omega)).1 q)
    by_cases z : 0 ≤ (lg_cmp x y).toInt
    · refine ⟨_, ?_, t.1 z⟩
      unfold opx
      rw [if_neg (by omega), if_neg (by omega), if_neg (by omega), if_neg (by omega), if_pos q, if_pos z]
    · refine ⟨_, ?_, t.2 z⟩
      unfold opx
      rw [if_neg (by omega), if_neg (by omega), if_neg (by omega), if_neg (by omega), if_pos q, if_neg z]
  · have t := ((((((((((((((((((((h.2 (by omega)).2 (by omega)).2 (by omega)).2 (by omega)).2 (by omega)).2 (by omega)).2 (by omega)).2 (by omega)).2 (by omega)).2 (by omega)).2 (by omega)).2 (by omega)).2 (by omega)).2 (by omega)).2 (by omega)).2 (by omega)).2 (by omega)).2 (by omega)).2 (by omega)).1 q)
    by_cases z : (lg_cmp x y).toInt = 0
    · refine ⟨_, ?_, t.2 (fun n => n z)⟩
      unfold opx
      rw [if_neg (by omega), if_neg (by omega), if_neg (by omega), if_neg (by omega), if_neg (by omega), if_pos q, if_pos z]
    · refine ⟨_, ?_, t.1 z⟩
      unfold opx
      rw [if_neg (by omega), if_neg (by omega), if_neg (by omega), if_neg (by omega), if_neg (by omega), if_pos q, if_neg z]
  · have t := ((((((((((((((((((((h.2 (by omega)).2 (by omega)).2 (by omega)).2 (by omega)).2 (by omega)).2 (by omega)).2 (by omega)).2 (by omega)).2 (by omega)).2 (by omega)).2 (by omega)).2 (by omega)).2 (by omega)).2 (by omega)).2 (by omega)).2 (by omega)).2 (by omega)).2 (by omega)).2 (by omega)).2 (by omega))
    by_cases z : (lg_cmp x y).toInt ≤ 0
    · refine ⟨_, ?_, t.1 z⟩
      unfold opx
      rw [if_neg (by omega), if_neg (by omega), if_neg (by omega), if_neg (by omega), if_neg (by omega), if_neg (by omega), if_pos z]
    · refine ⟨_, ?_, t.2 z⟩
      unfold opx
      rw [if_neg (by omega), if_neg (by omega), if_neg (by omega), if_neg (by omega), if_neg (by omega), if_neg (by omega), if_neg z]
/-- one alarm more -/
def alC (w : MW) (a b c : Int32) : MW := if 200 ≤ (w.1 3 0).toInt then w else sI (sI (sI (sI w 4 ((w.1 3 0).toInt.toNat) a) 5 ((w.1 3 0).toInt.toNat) b) 6 ((w.1 3 0).toInt.toNat) c) 3 0 ((w.1 3 0) + (1 : Int32))
theorem al_c {w : MW} {a b c : Int32} {Q : MW → Prop} (h : p_Al_add w a b c Q) : Q (alC w a b c) := by
  rw [p_Al_add.eq_1] at h
  unfold alC
  by_cases q : 200 ≤ (w.1 3 0).toInt
  · rw [if_pos q]
    exact h.1 q
  · rw [if_neg q]
    exact (h.2 q).2.2.2
def fltC (w : MW) (a b : Int32) : MW := sI (alC w (w.1 7 1) b a) 61 4 2
theorem flt_c {w : MW} {a b : Int32} {Q : MW → Prop} (h : p_Ru_fault w a b Q) : Q (fltC w a b) := by
  rw [p_Ru_fault.eq_1] at h
  exact al_c h
/-- the class's nodes and values, as far as sums go -/
def RkC (ns : List Nod) (val : Nat → Int64) (w : MW) : Prop := ns.length ≤ 300 ∧ ∀ (i : Nat) (d : Nod), ns[i]? = some d → (w.1 63 i).toInt = d.1 ∧ (d.1 = 30 → (w.1 64 i).toInt = d.2.1 ∧ w.2.1 74 d.2.1.toNat = val d.2.1.toNat) ∧ (d.1 = 31 → w.2.1 69 i = Int64.ofInt d.2.2.1)
/-- nothing but the stack from t on has changed -/
def SkT (t : Nat) (w w' : MW) : Prop := w'.1 = w.1 ∧ w'.2.2 = w.2.2 ∧ ∀ c j : Nat, (¬ c = 86 ∨ j < t) → w'.2.1 c j = w.2.1 c j
theorem sk_0 (t : Nat) (w : MW) : SkT t w w := ⟨rfl, rfl, fun _ _ _ => rfl⟩
theorem sk_t {t t' : Nat} {w w1 w2 : MW} (h : SkT t w w1) (h2 : SkT t' w1 w2) (ht : t ≤ t') : SkT t w w2 := ⟨h2.1.trans h.1, h2.2.1.trans h.2.1, fun c j q => (h2.2.2 c j (by omega)).trans (h.2.2 c j q)⟩
theorem sk_j {t j : Nat} (w : MW) (x : Int64) (hj : t ≤ j) : SkT t w (sJ w 86 j x) := ⟨rfl, rfl, fun c i q => by
  rw [sJ_at, if_neg (by omega)]⟩
theorem rk_k {ns : List Nod} {val : Nat → Int64} {t : Nat} {w w' : MW} (h : RkC ns val w) (k : SkT t w w') : RkC ns val w' := by
  refine ⟨h.1, fun i d hd => ?_⟩
  have q := h.2 i d hd
  rw [k.1, k.2.2 74 _ (Or.inl (by decide)), k.2.2 69 _ (Or.inl (by decide))]
  exact q
theorem nI_m1 (t : Nat) (h : t < 1000) : nI (t + 2) + ((-1) : Int32) = nI (t + 1) := by
  have a : (nI (t + 2)).toInt = ((t + 2 : Nat) : Int) := nI_toInt (by omega)
  have b : (nI (t + 1)).toInt = ((t + 1 : Nat) : Int) := nI_toInt (by omega)
  have c := ti_add2 a (by decide : ((-1) : Int32).toInt = -1) (by omega) (by omega)
  exact Int32.toInt_inj.mp (by omega)
/-- THE CLASS RECKONS the tree of e -/
theorem rk_s {ns : List Nod} {val : Nat → Int64} {b : Int32} {E : MW → Prop} {Q : Int64 → MW → Prop} : ∀ (k lo e N t m : Nat) (w : MW), TRX ns k lo e N → q_Ru_reckon_12 b E Q m (nI t) (nI lo) w → (e : Int) < b.toInt → t + N ≤ 63 → RkC ns val w → (∀ x, evx ns val k e = Sum.inr x → ∃ m' w', SkT t w w' ∧ w'.2.1 86 t = x ∧ q_Ru_reckon_12 b E Q m' (nI (t + 1)) (nI (e + 1)) w') ∧ (∀ z, evx ns val k e = Sum.inl z → ∃ w', SkT t w w' ∧ Q 0 (fltC w' 1 (nI z))) := by
  intro k
  induction k with
  | zero => exact fun _ _ _ _ _ _ h => False.elim h
  | succ k ih =>
    intro lo e N t m w hT h hb ht hR
    rw [TRX_u] at hT
    obtain ⟨n1, le, d, hd, o⟩ := hT
    have el := (List.getElem?_eq_some_iff.mp hd).1
    have l3 := hR.1
    have tt : (nI t).toInt = (t : Int) := nI_toInt (by omega)
    have tn : (nI t).toInt.toNat = t := by omega
    have te : (nI e).toInt = (e : Int) := nI_toInt (by omega)
    have en : (nI e).toInt.toNat = e := by omega
    rw [evx_u hd]
    rcases o with ⟨kd, ele⟩ | ⟨kd, lt, hk, T1⟩ | ⟨kd, a, hk, la, ae, n2, T1, T2⟩
    · rw [ele] at h
      cases m with
      | zero => exact False.elim h
      | succ m =>
        rw [q_Ru_reckon_12.eq_2] at h
        have q := hR.2 e d hd
        have h1 := (h.2 (by omega)).2 (by omega)
        have h2 := h1.2.2
        rw [en, q.1] at h2
        rcases kd with k30 | k31
        · have h3 := (h2.2 (by omega)).2 (by omega)
          rw [q_Ru_reckon_53.eq_1, en, tn] at h3
          have h4 := (h3.1 (by rw [q.1]; omega)).2.2.2.2.2
          have q30 := q.2.1 k30
          rw [ev_30 k30]
          refine ⟨fun x hx => ?_, fun z hz => by cases hz⟩
          injection hx with hx
          refine ⟨m, _, sk_j w _ (Nat.le_refl t), ?_, by rw [nI_1, nI_1] at h4; exact h4⟩
          rw [sJ_same, q30.1, ← hx]
          exact q30.2
        · have h3 := h2.1 k31
          rw [q_Ru_reckon_53.eq_1, en, tn] at h3
          have h4 := (h3.2 (by rw [q.1]; omega)).2.2.2
          rw [ev_31 k31]
          refine ⟨fun x hx => ?_, fun z hz => by cases hz⟩
          injection hx with hx
          refine ⟨m, _, sk_j w _ (Nat.le_refl t), ?_, by rw [nI_1, nI_1] at h4; exact h4⟩
          rw [sJ_same, ← hx]
          exact q.2.2 k31
    · have t1 : (nI (t + 1)).toInt = ((t + 1 : Nat) : Int) := nI_toInt (by omega)
      have sb := ti_sub2 t1 i_1 (by omega) (by omega)
      have sn : (nI (t + 1) - (1 : Int32)).toInt.toNat = t := by omega
      have kn : ¬ d.1 = 31 ∧ ¬ d.1 = 30 := by omega
      have x64 : ¬ 64 ≤ (nI (t + 1)).toInt := by omega
      have xbe : ¬ b.toInt ≤ (nI e).toInt := by omega
      have xt0 : ¬ (nI (t + 1)).toInt ≤ 0 := by omega
      rw [ev_34 kd hk]
      obtain ⟨I1, I2⟩ := ih lo (e - 1) N t m w T1 h (by omega) ht hR
      generalize hv : evx ns val k (e - 1) = v at *
      cases v with
      | inl z0 =>
        refine ⟨(fun x hx => by cases hx), fun z hz => ?_⟩
        injection hz with hz
        rw [← hz]
        exact I2 z0 rfl
      | inr x0 =>
        refine ⟨fun x hx => ?_, fun z hz => by cases hz⟩
        injection hx with hx
        obtain ⟨m1, w1, s1, v1, h1⟩ := I1 x0 rfl
        rw [show e - 1 + 1 = e by omega] at h1
        cases m1 with
        | zero => exact False.elim h1
        | succ m1 =>
          rw [q_Ru_reckon_12.eq_2] at h1
          have R1 := rk_k hR s1
          have q := R1.2 e d hd
          have h2 := ((h1.2 xbe).2 x64).2.2
          rw [en, q.1, sn] at h2
          have h3 := (((h2.2 kn.1).1 kn.2).2 (fun n => n kd)).2 xt0
          have h4 := h3.2.2
          rw [nI_1] at h4
          refine ⟨m1, _, sk_t s1 (sk_j w1 _ (Nat.le_refl t)) (Nat.le_refl t), ?_, h4⟩
          rw [sJ_same, v1, ← hx]
    · have kn : ¬ d.1 = 31 ∧ ¬ d.1 = 30 ∧ ¬ d.1 = 34 := by omega
      have t2 : (nI (t + 2)).toInt = ((t + 2 : Nat) : Int) := nI_toInt (by omega)
      have t1 : (nI (t + 1)).toInt = ((t + 1 : Nat) : Int) := nI_toInt (by omega)
      have t1n : (nI (t + 1)).toInt.toNat = t + 1 := by omega
      have sb := ti_sub2 t1 i_1 (by omega) (by omega)
      have sn : (nI (t + 1) - (1 : Int32)).toInt.toNat = t := by omega
      have x64 : ¬ 64 ≤ (nI (t + 2)).toInt := by omega
      have xbe : ¬ b.toInt ≤ (nI e).toInt := by omega
      have xt1 : ¬ (nI (t + 2)).toInt ≤ 1 := by omega
      have nm1 := nI_m1 t (by omega)
      have c7 : d.1 = 42 ∨ d.1 = 43 ∨ d.1 = 45 ∨ d.1 = 47 ∨ d.1 = 60 ∨ d.1 = 61 ∨ d.1 = 62 := kd
      rw [ev_op ⟨kn.1, kn.2.1⟩ hk]
      obtain ⟨I1, I2⟩ := ih lo a N t m w T1 h (by omega) ht hR
      generalize hv : evx ns val k a = v at *
      cases v with
      | inl z0 =>
        refine ⟨(fun x hx => by cases hx), fun z hz => ?_⟩
        injection hz with hz
        rw [← hz]
        exact I2 z0 rfl
      | inr x0 =>
        obtain ⟨m1, w1, s1, v1, h1⟩ := I1 x0 rfl
        have R1 := rk_k hR s1
        obtain ⟨J1, J2⟩ := ih (a + 1) (e - 1) (N - 1) (t + 1) m1 w1 T2 h1 (by omega) (by omega) R1
        generalize hu : evx ns val k (e - 1) = u at *
        cases u with
        | inl z0 =>
          refine ⟨(fun x hx => by cases hx), fun z hz => ?_⟩
          injection hz with hz
          rw [← hz]
          obtain ⟨w2, s2, g⟩ := J2 z0 rfl
          exact ⟨w2, sk_t s1 s2 (by omega), g⟩
        | inr y0 =>
          obtain ⟨m2, w2, s2, v2, h2⟩ := J1 y0 rfl
          have S2 := sk_t s1 s2 (show t ≤ t + 1 by omega)
          have R2 := rk_k R1 s2
          have q := R2.2 e d hd
          have x2 : w2.2.1 86 t = x0 := (s2.2.2 86 t (Or.inr (by omega))).trans v1
          rw [show e - 1 + 1 = e by omega, show t + 1 + 1 = t + 2 by omega] at h2
          cases m2 with
          | zero => exact False.elim h2
          | succ m2 =>
            rw [q_Ru_reckon_12.eq_2] at h2
            have h3 := ((h2.2 xbe).2 x64).2.2
            rw [en, q.1] at h3
            have h4 := ((h3.2 kn.1).1 kn.2.1).1 kn.2.2
            rw [q_Ru_reckon_134.eq_1, nm1] at h4
            have h5 := h4.2 xt1
            rw [q.1, t1n, v2] at h5
            have go : (d.1 = 47 → ¬ (lg_cmp y0 (0 : Int64)).toInt = 0) → q_Ru_reckon_169 b (nI (t + 1)) (nI e) (w2.1 63 e) w2 (fun (x12_3 : Int32) (x12_4 : Int32) (w : MW) => q_Ru_reckon_12 b E Q m2 x12_3 x12_4 w) E Q → ∃ r, opx d.1 e x0 y0 = Sum.inr r ∧ ∃ w', SkT t w w' ∧ w'.2.1 86 t = r ∧ q_Ru_reckon_12 b E Q m2 (nI (t + 1)) (nI (e + 1)) w' := fun n0 h6 => by
              rw [q_Ru_reckon_169.eq_1, sn, t1n, v2, x2] at h6
              obtain ⟨r, er, h7⟩ := ap_x (e := e) h6.2.2 q.1 c7 n0
              have h8 := h7.2
              rw [nI_1] at h8
              exact ⟨r, er, _, sk_t S2 (sk_j w2 _ (Nat.le_refl t)) (Nat.le_refl t), sJ_same _ _ _ _, h8⟩
            have fin : (∃ r, opx d.1 e x0 y0 = Sum.inr r ∧ ∃ w', SkT t w w' ∧ w'.2.1 86 t = r ∧ q_Ru_reckon_12 b E Q m2 (nI (t + 1)) (nI (e + 1)) w') → (∀ x, opx d.1 e x0 y0 = Sum.inr x → ∃ m' w', SkT t w w' ∧ w'.2.1 86 t = x ∧ q_Ru_reckon_12 b E Q m' (nI (t + 1)) (nI (e + 1)) w') ∧ (∀ z, opx d.1 e x0 y0 = Sum.inl z → ∃ w', SkT t w w' ∧ Q 0 (fltC w' 1 (nI z))) := fun ⟨r, er, w', a1, a2, a3⟩ => by
              rw [er]
              refine ⟨fun x hx => ?_, fun z hz => by cases hz⟩
              injection hx with hx
              exact ⟨m2, w', a1, a2.trans hx, a3⟩
            by_cases c47 : d.1 = 47
            · have h6 := (h5.2 (fun n => n c47)).2
              by_cases z0 : (lg_cmp y0 (0 : Int64)).toInt = 0
              · have h7 := flt_c (h6.2 (fun n => n z0))
                have eo : opx d.1 e x0 y0 = Sum.inl e := by
                  unfold opx
                  rw [c47, if_neg (by decide), if_neg (by decide), if_neg (by decide), if_pos rfl, if_pos z0]
                refine ⟨(fun x hx => by
                  have hx' : opx d.1 e x0 y0 = Sum.inr x := hx
                  rw [eo] at hx'
                  cases hx'), fun z hz => ?_⟩
                have hz' : opx d.1 e x0 y0 = Sum.inl z := hz
                rw [eo] at hz'
                injection hz' with hz
                rw [← hz]
                exact ⟨w2, S2, h7⟩
              · exact fin (go (fun _ => z0) (h6.1 z0))
            · exact fin (go (fun z => absurd z c47) (h5.1 c47))
/-- a sum of a statement -/
theorem rk_c {ns : List Nod} {val : Nat → Int64} {k lo e : Nat} {a b : Int32} {w : MW} {Q : Int64 → MW → Prop} (h : p_Ru_reckon w a b Q) (hT : TRX ns k lo e 44) (ha : a.toInt = (lo : Int)) (hb : b.toInt = (e : Int) + 1) (hR : RkC ns val w) : (∀ x, evx ns val k e = Sum.inr x → ∃ w', SkT 0 w w' ∧ Q x w') ∧ (∀ z, evx ns val k e = Sum.inl z → ∃ w', SkT 0 w w' ∧ Q 0 (fltC w' 1 (nI z))) := by
  rw [p_Ru_reckon.eq_1] at h
  have ea : a = nI lo := by
    rw [← nI_tn (a := a) (by omega)]
    congr 1
    omega
  rw [ea] at h
  have s0 := sk_j w (0 : Int64) (Nat.zero_le 0)
  obtain ⟨I1, I2⟩ := rk_s k lo e 44 0 _ (sJ w 86 0 0) hT (show q_Ru_reckon_12 b _ Q FU (nI 0) (nI lo) (sJ w 86 0 0) from h) (by omega) (by omega) (rk_k hR s0)
  refine ⟨fun x hx => ?_, fun z hz => ?_⟩
  · obtain ⟨m1, w1, s1, v1, h1⟩ := I1 x hx
    cases m1 with
    | zero => exact False.elim h1
    | succ m1 =>
      rw [q_Ru_reckon_12.eq_2] at h1
      have te : (nI (e + 1)).toInt = ((e + 1 : Nat) : Int) := nI_toInt (by
        have l3 := hR.1
        have el : e < ns.length := by
          cases k with
          | zero => exact False.elim hT
          | succ k =>
            rw [TRX_u] at hT
            obtain ⟨_, _, d, hd, _⟩ := hT
            exact (List.getElem?_eq_some_iff.mp hd).1
        omega)
      have h2 := h1.1 (by omega)
      rw [v1] at h2
      exact ⟨w1, sk_t s0 s1 (Nat.le_refl _), h2⟩
  · obtain ⟨w1, s1, h1⟩ := I2 z hz
    exact ⟨w1, sk_t s0 s1 (Nat.le_refl _), h1⟩
