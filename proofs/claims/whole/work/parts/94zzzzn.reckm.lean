/-! the reference reckons -/
/-- the reference's tree that stands -/
def StM (ns : List Nod) (w : MW) : Prop := ns.length ≤ 300 ∧ (0 ≤ (w.1 129 12).toInt ∧ (w.1 129 12).toInt ≤ 1) ∧ ∀ (i : Nat) (d : Nod), ns[i]? = some d → (w.1 131 (nd1 w (i : Int))).toInt = wht d.1 ∧ (d.1 = 31 → w.2.1 132 (nd1 w (i : Int)) = Int64.ofInt d.2.2.1) ∧ (¬ d.1 = 31 → ¬ d.1 = 10 → (w.2.1 132 (nd1 w (i : Int))).toInt = d.2.1) ∧ (w.1 136 (nd1 w (i : Int))).toInt = (d.2.2.2.length : Int) ∧ (0 ≤ (w.1 135 (nd1 w (i : Int))).toInt ∧ (w.1 135 (nd1 w (i : Int))).toInt + (d.2.2.2.length : Int) ≤ 300) ∧ ∀ (k c : Nat), d.2.2.2[k]? = some c → (w.1 137 (300 * (w.1 129 12).toInt + (w.1 135 (nd1 w (i : Int))).toInt + (k : Int)).toNat).toInt = (c : Int)
theorem ndx {ns : List Nod} {w : MW} (h : StM ns w) {a : Int32} {i : Nat} (ha : a.toInt = (i : Int)) (hi : i < 300) : (((300 : Int32) * (w.1 129 12)) + a).toInt.toNat = nd1 w (i : Int) := by
  have b := h.2.1
  have m := ti_mul2 (by decide : ((300 : Int32)).toInt = 300) (Eq.refl (w.1 129 12).toInt) (by omega) (by omega)
  have s := ti_add2 m ha (by omega) (by omega)
  unfold nd1
  rw [s]
/-- a kid -/
theorem kd_x {ns : List Nod} {w : MW} {a : Int32} {i k c : Nat} {d : Nod} {Q : Int32 → MW → Prop} (h : StM ns w) (ha : a.toInt = (i : Int)) (hd : ns[i]? = some d) (hk : d.2.2.2[k]? = some c) {b : Int32} (hb : b.toInt = (k : Int)) (p : p_Tx_kid w a b Q) : ∃ r : Int32, r.toInt = (c : Int) ∧ Q r w := by
  have il := (List.getElem?_eq_some_iff.mp hd).1
  have kl := (List.getElem?_eq_some_iff.mp hk).1
  have l3 := h.1
  have q := h.2.2 i d hd
  have q5 := q.2.2.2.2.1
  have b12 := h.2.1
  rw [p_Tx_kid.eq_1, p_Tx_node1.eq_1, ndx h ha (by omega)] at p
  have m := ti_mul2 (by decide : ((300 : Int32)).toInt = 300) (Eq.refl (w.1 129 12).toInt) (by omega) (by omega)
  have s1 := ti_add2 m (Eq.refl (w.1 135 (nd1 w (i : Int))).toInt) (by omega) (by omega)
  have s2 := ti_add2 s1 hb (by omega) (by omega)
  have t := p.2.2
  rw [s2] at t
  exact ⟨_, q.2.2.2.2.2 k c hk, t⟩
theorem stm_i {ns : List Nod} {w : MW} (h : StM ns w) (v : Int32) : StM ns (sI w 127 76 v) := h
theorem ev_z {ns : List Nod} {val : Nat → Int64} : ∀ (k e z : Nat), evx ns val k e = Sum.inl z → z < ns.length := by
  intro k
  induction k with
  | zero => exact fun e z h => by cases h
  | succ k ih2 =>
    intro e z h
    by_cases q : ∃ d, ns[e]? = some d
    · obtain ⟨d, hd⟩ := q
      rw [evx_u hd] at h
      unfold evN at h
      by_cases a1 : d.1 = 31
      · rw [if_pos a1] at h
        cases h
      · rw [if_neg a1] at h
        by_cases a2 : d.1 = 30
        · rw [if_pos a2] at h
          cases h
        · rw [if_neg a2] at h
          rcases hl : d.2.2.2 with _ | ⟨a, _ | ⟨b, _ | ⟨c, l⟩⟩⟩
          · rw [hl] at h
            cases h
          · rw [hl] at h
            rcases ha : evx ns val k a with y | y
            · have h' : (match evx ns val k a with | Sum.inl z => Sum.inl z | Sum.inr x => Sum.inr (-x)) = (Sum.inl z : Sum Nat Int64) := h
              rw [ha] at h'
              injection h' with h'
              rw [← h']
              exact ih2 a y ha
            · have h' : (match evx ns val k a with | Sum.inl z => Sum.inl z | Sum.inr x => Sum.inr (-x)) = (Sum.inl z : Sum Nat Int64) := h
              rw [ha] at h'
              cases h'
          · rw [hl] at h
            have h' : (match evx ns val k a with | Sum.inl z => Sum.inl z | Sum.inr x => (match evx ns val k b with | Sum.inl z => Sum.inl z | Sum.inr y => opx d.1 e x y)) = (Sum.inl z : Sum Nat Int64) := h
            rcases ha : evx ns val k a with y | y
            · rw [ha] at h'
              injection h' with h'
              rw [← h']
              exact ih2 a y ha
            · rw [ha] at h'
              rcases hb : evx ns val k b with y2 | y2
              · rw [hb] at h'
                injection h' with h'
                rw [← h']
                exact ih2 b y2 hb
              · rw [hb] at h'
                have h2 : opx d.1 e y y2 = Sum.inl z := h'
                unfold opx at h2
                split at h2 <;> first | cases h2 | (split at h2 <;> first | cases h2 | (split at h2 <;> first | cases h2 | (split at h2 <;> first | (split at h2 <;> first | (injection h2 with h2; rw [← h2]; exact (List.getElem?_eq_some_iff.mp hd).1) | cases h2) | (split at h2 <;> first | cases h2 | (split at h2 <;> cases h2)))))
          · rw [hl] at h
            cases h
    · have hn : ns[e]? = none := by
        cases hq : ns[e]? with
        | none => rfl
        | some d => exact absurd ⟨d, hq⟩ q
      have h' : (match ns[e]? with | some d => evN e d val (evx ns val k) | none => Sum.inr 0) = (Sum.inl z : Sum Nat Int64) := h
      rw [hn] at h'
      cases h'
/-- THE REFERENCE RECKONS the tree of e -/
theorem rk_m {ns : List Nod} {val : Nat → Int64} : ∀ (k lo e N M : Nat) (a : Int32) (w : MW) (Q : Int64 → MW → Prop), TRX ns k lo e N → pn_Mo_reckon M w a Q → a.toInt = (e : Int) → StM ns w → (∀ (i : Nat) (d : Nod), ns[i]? = some d → d.1 = 30 → (0 ≤ d.2.1 ∧ d.2.1 < 40) ∧ w.2.1 206 d.2.1.toNat = val d.2.1.toNat) → (w.1 127 76).toInt = -1 → (∀ x, evx ns val k e = Sum.inr x → Q x w) ∧ (∀ z, evx ns val k e = Sum.inl z → ∃ x, Q x (sI w 127 76 (nI z))) := by
  intro k
  induction k with
  | zero => exact fun _ _ _ _ _ _ _ h => False.elim h
  | succ k ih =>
    intro lo e N M a w Q hT h ha hS hV hb
    rw [TRX_u] at hT
    obtain ⟨n1, le, d, hd, o⟩ := hT
    have el := (List.getElem?_eq_some_iff.mp hd).1
    have l3 := hS.1
    cases M with
    | zero => exact False.elim h
    | succ M =>
      rw [pe_Mo_reckon, pb_Mo_reckon.eq_1] at h
      have h1 := h.1 hb
      rw [p_Tx_node1.eq_1, ndx hS ha (by omega)] at h1
      have q := hS.2.2 e d hd
      have h2 := h1.2
      rw [q.1] at h2
      rw [evx_u hd]
      rcases o with ⟨kd, ele⟩ | ⟨kd, lt, hk, T1⟩ | ⟨kd, x, hk, la, ae, n2, T1, T2⟩
      · rcases kd with k30 | k31
        · have ew : wht d.1 = 1 := by rw [k30]; decide
          rw [ew] at h2
          have h3 := (h2.1 (by decide)).2 (by decide)
          rw [p_Tx_node1.eq_1, ndx hS ha (by omega)] at h3
          have v := hV e d hd k30
          have e2 := q.2.2.1 (by omega) (by omega)
          have en := nb_l2i (x := w.2.1 132 (nd1 w (e : Int))) (by omega) (by omega)
          have h4 := h3.2.2
          rw [en, e2, v.2] at h4
          rw [ev_30 k30]
          refine ⟨fun y hy => ?_, fun z hz => by cases hz⟩
          injection hy with hy
          rw [← hy]
          exact h4
        · have ew : wht d.1 = 0 := by rw [k31]; decide
          rw [ew] at h2
          have h3 := h2.2 (by decide)
          rw [p_Tx_node1.eq_1, ndx hS ha (by omega)] at h3
          have h4 := h3.2
          rw [q.2.1 k31] at h4
          rw [ev_31 k31]
          refine ⟨fun y hy => ?_, fun z hz => by cases hz⟩
          injection hy with hy
          rw [← hy]
          exact h4
      · have ew : wht d.1 = 6 := by rw [kd]; decide
        rw [ew] at h2
        have h3 := (h2.1 (by decide)).1 (by decide)
        obtain ⟨r6, e6, h4⟩ := kd_x (k := 0) (c := e - 1) hS ha hd (by rw [hk]; rfl) (by decide) h3
        obtain ⟨I1, I2⟩ := ih lo (e - 1) N M r6 w _ T1 h4 e6 hS hV hb
        rw [ev_34 kd hk]
        generalize hv : evx ns val k (e - 1) = v at *
        cases v with
        | inl z0 =>
          refine ⟨(fun x hx => by cases hx), fun z hz => ?_⟩
          injection hz with hz
          rw [← hz]
          obtain ⟨x, hx⟩ := I2 z0 rfl
          exact ⟨_, hx.2 (by decide)⟩
        | inr x0 =>
          refine ⟨fun x hx => ?_, fun z hz => by cases hz⟩
          injection hx with hx
          rw [← hx]
          exact (I1 x0 rfl).2 (by decide)
      · have ew : ¬ wht d.1 = 0 ∧ ¬ wht d.1 = 1 ∧ ¬ wht d.1 = 6 := by
          rcases kd with z | z | z | z | z | z | z <;> (rw [z]; decide)
        have h3 := (h2.1 ew.1).1 ew.2.1
        obtain ⟨r6, e6, h4⟩ := kd_x (k := 0) (c := x) hS ha hd (by rw [hk]; rfl) (by decide) h3
        obtain ⟨I1, I2⟩ := ih lo x N M r6 w _ T1 h4 e6 hS hV hb
        rw [ev_op (by omega) hk]
        generalize hv : evx ns val k x = v at *
        cases v with
        | inl z0 =>
          refine ⟨(fun x hx => by cases hx), fun z hz => ?_⟩
          injection hz with hz
          rw [← hz]
          obtain ⟨r7, h7⟩ := I2 z0 rfl
          have h8 := h7.1 ew.2.2
          obtain ⟨r9, e9, h9⟩ := kd_x (k := 1) (c := e - 1) (stm_i hS (nI z0)) ha hd (by rw [hk]; rfl) (by decide) h8
          have zl : z0 < 300 := by
            have := ev_z k x z0 hv
            omega
          have zi : ((sI w 127 76 (nI z0)).1 127 76).toInt = (z0 : Int) := by
            rw [sI_same]
            exact nI_toInt (by omega)
          cases M with
          | zero => exact False.elim h9
          | succ M =>
            rw [pe_Mo_reckon, pb_Mo_reckon.eq_1] at h9
            have h10 := h9.2 (by omega)
            exact ⟨_, h10.2 (by omega)⟩
        | inr x0 =>
          have h8 := (I1 x0 rfl).1 ew.2.2
          obtain ⟨r9, e9, h9⟩ := kd_x (k := 1) (c := e - 1) hS ha hd (by rw [hk]; rfl) (by decide) h8
          obtain ⟨J1, J2⟩ := ih (x + 1) (e - 1) (N - 1) M r9 w _ T2 h9 e9 hS hV hb
          generalize hu : evx ns val k (e - 1) = u at *
          cases u with
          | inl z0 =>
            refine ⟨(fun x hx => by cases hx), fun z hz => ?_⟩
            injection hz with hz
            rw [← hz]
            obtain ⟨r10, h10⟩ := J2 z0 rfl
            have zl : z0 < 300 := by
              have := ev_z k (e - 1) z0 hu
              omega
            have zi : ((sI w 127 76 (nI z0)).1 127 76).toInt = (z0 : Int) := by
              rw [sI_same]
              exact nI_toInt (by omega)
            exact ⟨_, h10.2 (by omega)⟩
          | inr y0 =>
            have h10 := (J1 y0 rfl).1 hb
            show (∀ x, opx d.1 e x0 y0 = Sum.inr x → Q x w) ∧ (∀ z, opx d.1 e x0 y0 = Sum.inl z → ∃ x, Q x (sI w 127 76 (nI z)))
            rcases kd with z | z | z | z | z | z | z
            · have w4 : wht d.1 = 4 := by rw [z]; decide
              rw [w4] at h10
              have t := ((h10.2 (by decide)).2 (by decide)).1 rfl
              have eo : opx d.1 e x0 y0 = Sum.inr ((x0 * y0) / (1000 : Int64)) := by
                unfold opx
                rw [if_pos z]
              rw [eo]
              refine ⟨fun x hx => ?_, fun z hz => by cases hz⟩
              injection hx with hx
              rw [← hx]
              exact t
            · have w4 : wht d.1 = 2 := by rw [z]; decide
              rw [w4] at h10
              have t := h10.1 rfl
              have eo : opx d.1 e x0 y0 = Sum.inr (x0 + y0) := by
                unfold opx
                rw [if_neg (by omega), if_pos z]
              rw [eo]
              refine ⟨fun x hx => ?_, fun z hz => by cases hz⟩
              injection hx with hx
              rw [← hx]
              exact t
            · have w4 : wht d.1 = 3 := by rw [z]; decide
              rw [w4] at h10
              have t := (h10.2 (by decide)).1 rfl
              have eo : opx d.1 e x0 y0 = Sum.inr (x0 - y0) := by
                unfold opx
                rw [if_neg (by omega), if_neg (by omega), if_pos z]
              rw [eo]
              refine ⟨fun x hx => ?_, fun z hz => by cases hz⟩
              injection hx with hx
              rw [← hx]
              exact t
            · have w4 : wht d.1 = 5 := by rw [z]; decide
              rw [w4] at h10
              have t := (((h10.2 (by decide)).2 (by decide)).2 (by decide)).1 rfl
              by_cases y00 : (lg_cmp y0 (0 : Int64)).toInt = 0
              · have eo : opx d.1 e x0 y0 = Sum.inl e := by
                  unfold opx
                  rw [if_neg (by omega), if_neg (by omega), if_neg (by omega), if_pos z, if_pos y00]
                rw [eo]
                refine ⟨(fun x hx => by cases hx), fun z hz => ?_⟩
                injection hz with hz
                rw [← hz]
                refine ⟨0, ?_⟩
                have t2 := t.2 (fun n => n y00)
                have ea : a = nI e := by
                  rw [← nI_tn (a := a) (by omega)]
                  congr 1
                  omega
                rw [ea] at t2
                exact t2
              · have eo : opx d.1 e x0 y0 = Sum.inr ((x0 * (1000 : Int64)) / y0) := by
                  unfold opx
                  rw [if_neg (by omega), if_neg (by omega), if_neg (by omega), if_pos z, if_neg y00]
                rw [eo]
                refine ⟨fun x hx => ?_, fun z hz => by cases hz⟩
                injection hx with hx
                rw [← hx]
                exact (t.1 y00).2
            · have w4 : wht d.1 = 7 := by rw [z]; decide
              rw [w4] at h10
              have t := (((((h10.2 (by decide)).2 (by decide)).2 (by decide)).2 (by decide)).2 (by decide)).1 rfl
              have eo : opx d.1 e x0 y0 = Sum.inr (if 0 ≤ (lg_cmp x0 y0).toInt then 0 else 1000) := by
                unfold opx
                rw [if_neg (by omega), if_neg (by omega), if_neg (by omega), if_neg (by omega), if_pos z]
              rw [eo]
              refine ⟨fun x hx => ?_, fun z hz => by cases hz⟩
              injection hx with hx
              rw [← hx]
              by_cases y00 : 0 ≤ (lg_cmp x0 y0).toInt
              · rw [if_pos y00]
                exact t.1 y00
              · rw [if_neg y00]
                exact t.2 y00
            · have w4 : wht d.1 = 8 := by rw [z]; decide
              rw [w4] at h10
              have t := ((((((h10.2 (by decide)).2 (by decide)).2 (by decide)).2 (by decide)).2 (by decide)).2 (by decide)).1 rfl
              have eo : opx d.1 e x0 y0 = Sum.inr (if (lg_cmp x0 y0).toInt = 0 then 1000 else 0) := by
                unfold opx
                rw [if_neg (by omega), if_neg (by omega), if_neg (by omega), if_neg (by omega), if_neg (by omega), if_pos z]
              rw [eo]
              refine ⟨fun x hx => ?_, fun z hz => by cases hz⟩
              injection hx with hx
              rw [← hx]
              by_cases y00 : (lg_cmp x0 y0).toInt = 0
              · rw [if_pos y00]
                exact t.2 (fun n => n y00)
              · rw [if_neg y00]
                exact t.1 y00
            · have w4 : wht d.1 = 9 := by rw [z]; decide
              rw [w4] at h10
              have t := ((((((h10.2 (by decide)).2 (by decide)).2 (by decide)).2 (by decide)).2 (by decide)).2 (by decide)).2 (by decide)
              have eo : opx d.1 e x0 y0 = Sum.inr (if (lg_cmp x0 y0).toInt ≤ 0 then 0 else 1000) := by
                unfold opx
                rw [if_neg (by omega), if_neg (by omega), if_neg (by omega), if_neg (by omega), if_neg (by omega), if_neg (by omega)]
              rw [eo]
              refine ⟨fun x hx => ?_, fun z hz => by cases hz⟩
              injection hx with hx
              rw [← hx]
              by_cases y00 : (lg_cmp x0 y0).toInt ≤ 0
              · rw [if_pos y00]
                exact t.1 y00
              · rw [if_neg y00]
                exact t.2 y00
