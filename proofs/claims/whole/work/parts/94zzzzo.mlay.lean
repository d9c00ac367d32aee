/-! the reference lays a program out -/
def LyM (ns : List Nod) (w : MW) (l : List Nat) (p : Nat) (h : Int) (q : Nat) : Prop := ∃ k, LayA ns (fun j => (w.1 207 j).toInt) (fun j => (w.1 208 j).toInt) (fun j => (w.1 209 j).toInt) k l p h q
/-- where the steps are -/
def StN (nm : List Nm) (w : MW) : Prop := nm.length ≤ 40 ∧ ∀ (i : Nat) (x : Nm), nm[i]? = some x → 0 ≤ x.2.2.2 → (w.1 143 (40 * (w.1 129 12).toInt + (i : Int)).toNat).toInt = x.2.2.2 + 1
/-- the pure facts of a program -/
def PGS (ns : List Nod) (nm : List Nm) : Prop := KOn ns ∧ NWf (lkn nm) ns ∧ WNm ns nm ∧ NmL (nm.length : Int) ns ∧ (∀ (i : Nat) (d : Nod), ns[i]? = some d → ¬ own d.1 = 0 → ∃ fr to, RGv ns i d fr to) ∧ (∀ (i : Nat) (x : Nm), nm[i]? = some x → 0 ≤ x.2.2.2 → ∃ d, ns[x.2.2.2.toNat]? = some d ∧ d.1 = 35) ∧ ns.length ≤ 300 ∧ KCt ns
/-- but for the places all is as it was -/
def KpL (w w' : MW) : Prop := w'.2.1 = w.2.1 ∧ w'.2.2 = w.2.2 ∧ ∀ c j : Nat, ¬ (c = 207 ∨ c = 208 ∨ c = 209 ∨ c = 210) → ¬ (c = 127 ∧ j = 60) → w'.1 c j = w.1 c j
theorem kpl_t {w w1 w2 : MW} (h : KpL w w1) (h2 : KpL w1 w2) : KpL w w2 := ⟨h2.1.trans h.1, h2.2.1.trans h.2.1, fun c j a b => (h2.2.2 c j a b).trans (h.2.2 c j a b)⟩
theorem kpl_s {ns : List Nod} {w w' : MW} (h : StM ns w) (k : KpL w w') : StM ns w' := by
  have e12 : w'.1 129 12 = w.1 129 12 := k.2.2 129 12 (by decide) (by decide)
  have en : ∀ i : Int, nd1 w' i = nd1 w i := fun i => by unfold nd1; rw [e12]
  refine ⟨h.1, by rw [e12]; exact h.2.1, fun i d hd => ?_⟩
  rw [en, e12, k.1, k.2.2 131 _ (by decide) (fun z => absurd z.1 (by decide)), k.2.2 136 _ (by decide) (fun z => absurd z.1 (by decide)), k.2.2 135 _ (by decide) (fun z => absurd z.1 (by decide))]
  have q := h.2.2 i d hd
  refine ⟨q.1, q.2.1, q.2.2.1, q.2.2.2.1, q.2.2.2.2.1, fun k2 c hk => ?_⟩
  rw [k.2.2 137 _ (by decide) (fun z => absurd z.1 (by decide))]
  exact q.2.2.2.2.2 k2 c hk
theorem kpl_n {nm : List Nm} {w w' : MW} (h : StN nm w) (k : KpL w w') : StN nm w' := ⟨h.1, fun i x hx x0 => by
  rw [k.2.2 129 12 (by decide) (by decide), k.2.2 143 _ (by decide) (fun z => absurd z.1 (by decide))]
  exact h.2 i x hx x0⟩
/-- below p nothing has changed -/
def Blw (p : Int) (w w' : MW) : Prop := ∀ j : Nat, (j : Int) < p → w'.1 207 j = w.1 207 j ∧ w'.1 208 j = w.1 208 j ∧ w'.1 209 j = w.1 209 j ∧ w'.1 210 j = w.1 210 j
/-- node n is laid out -/
def LySp (ns : List Nod) (w : MW) (n : Nat) (w' : MW) : Prop := KpL w w' ∧ plc w < plc w' ∧ Blw (plc w) w w' ∧ (w'.1 207 (plc w).toNat).toInt = (n : Int) ∧ (w'.1 209 (plc w).toNat).toInt = -1 ∧ LyM ns w' (kdl ns n) ((plc w).toNat + 1) (w'.1 208 (plc w).toNat).toInt (plc w').toNat ∧ ∀ j : Nat, plc w ≤ (j : Int) → (j : Int) < plc w' → (w'.1 210 j).toInt = 0
theorem tx_w {ns : List Nod} {lo e N : Nat} (h : TX ns lo e N) : ∃ d, ns[e]? = some d ∧ wht d.1 < 10 := by
  obtain ⟨k, h⟩ := h
  cases k with
  | zero => exact False.elim h
  | succ k =>
    rw [TRX_u] at h
    obtain ⟨_, _, d, hd, o⟩ := h
    refine ⟨d, hd, ?_⟩
    rcases o with ⟨z, _⟩ | ⟨z, _⟩ | ⟨z, _⟩
    · rcases z with z | z <;> (rw [z]; decide)
    · rw [z]
      decide
    · rcases z with z | z | z | z | z | z | z <;> (rw [z]; decide)
theorem own_10 {k : Int} (h : ¬ own k = 0) : 10 ≤ wht k ∧ wht k ≤ 23 := by
  rw [own_w] at h
  by_cases a : wht k < 10
  · rw [if_pos a] at h
    exact absurd rfl h
  · rw [if_neg a] at h
    by_cases b : 23 < wht k
    · rw [if_pos b] at h
      exact absurd rfl h
    · omega
theorem nxp_2 (k : Int) : nxp k = 0 ∨ nxp k = 1 ∨ (k = 14 ∧ nxp k = 2) := by
  unfold nxp
  by_cases a : k = 14
  · rw [if_pos a]
    exact Or.inr (Or.inr ⟨a, rfl⟩)
  · rw [if_neg a]
    by_cases b : k = 11 ∨ k = 12 ∨ k = 13 ∨ k = 17 ∨ k = 19 ∨ k = 20
    · rw [if_pos b]
      exact Or.inr (Or.inl rfl)
    · rw [if_neg b]
      exact Or.inl rfl
/-- the sums are in front -/
theorem kd_e {ns : List Nod} {nm : List Nm} (h : PGS ns nm) {i k c : Nat} {d : Nod} (hd : ns[i]? = some d) (ho : ¬ own d.1 = 0) (hk : d.2.2.2[k]? = some c) (hl : k < nxp d.1) : ∃ dc, ns[c]? = some dc ∧ wht dc.1 < 10 := by
  obtain ⟨fr, to, r⟩ := h.2.2.2.2.1 i d hd ho
  rcases r with ⟨z, _⟩ | ⟨e, lo, r, hr, _, _, T, T14, _⟩
  · omega
  · rw [hr] at hk
    cases k with
    | zero =>
      have e1 : e = c := Option.some.inj hk
      rw [← e1]
      exact tx_w T
    | succ k =>
      rcases nxp_2 d.1 with z | z | ⟨z14, z⟩
      · omega
      · omega
      · obtain ⟨e1, T2⟩ := T14 z14
        rw [e1] at hk
        have k0 : k = 0 := by omega
        rw [k0] at hk
        have e2 : i - 1 = c := Option.some.inj hk
        rw [← e2]
        exact tx_w T2
def LyJ (ns : List Nod) (w0 : MW) (n b0 : Int) (l0 : List Nat) (la : Int) (w1 : MW) : Prop := KpL w0 w1 ∧ plc w0 < plc w1 ∧ Blw (plc w0) w0 w1 ∧ (w1.1 207 (plc w0).toNat).toInt = n ∧ (w1.1 209 (plc w0).toNat).toInt = -1 ∧ ((w1.1 210 (plc w0).toNat).toInt = b0 ∧ ∀ j : Nat, plc w0 < (j : Int) → (j : Int) < plc w1 → (w1.1 210 j).toInt = 0) ∧ ((la = -1 ∧ l0 = [] ∧ (w1.1 208 (plc w0).toNat).toInt = -1 ∧ plc w1 = plc w0 + 1) ∨ (0 ≤ la ∧ la < plc w1 ∧ plc w0 < la ∧ (w1.1 209 la.toNat).toInt = -1 ∧ LayB ns (fun j => (w1.1 207 j).toInt) (fun j => (w1.1 208 j).toInt) (fun j => (w1.1 209 j).toInt) l0 ((plc w0).toNat + 1) (w1.1 208 (plc w0).toNat).toInt la.toNat (plc w1).toNat))
theorem ly_end {ns : List Nod} {w0 w1 : MW} {n : Nat} {l0 : List Nat} {la : Int} (p0 : 0 ≤ plc w0) (h : LyJ ns w0 (n : Int) 0 l0 la w1) (e : l0 = kdl ns n) : LySp ns w0 n w1 := by
  refine ⟨h.1, h.2.1, h.2.2.1, h.2.2.2.1, h.2.2.2.2.1, ?_, fun j ja jb => ?_⟩
  case refine_2 =>
    by_cases z : (j : Int) = plc w0
    · rw [show j = (plc w0).toNat by omega]
      exact h.2.2.2.2.2.1.1
    · exact h.2.2.2.2.2.1.2 j (by omega) jb
  rcases h.2.2.2.2.2.2 with ⟨a, b, c, d⟩ | ⟨a, b, c, d, f⟩
  · refine ⟨1, ?_⟩
    rw [← e, b, LayA_n]
    exact ⟨c, by omega⟩
  · rw [← e]
    exact LayB_e _ _ _ _ _ f d
/-- one kid more is laid and hung -/
theorem ly_hang {ns : List Nod} {w0 w1 w2 : MW} {n b0 : Int} {c : Nat} {l0 : List Nat} {la r : Int32} {i : Int32} {Q : Int32 → MW → Prop} (p0 : 0 ≤ plc w0) (p5 : plc w1 ≤ 501) (hi : i.toInt = plc w0) (h : LyJ ns w0 n b0 l0 la.toInt w1) (t : LySp ns w1 c w2) (hr : r.toInt = plc w1) (q : p_Mo_hang w2 i la r Q) : ∃ w3, Q r w3 ∧ KpL w1 w3 ∧ LyJ ns w0 n b0 (l0 ++ [c]) r.toInt w3 := by
  obtain ⟨t1, t2, t3, t4, t5, t6, t7⟩ := t
  obtain ⟨j1, j2, j3, j4, j5, j6, j7⟩ := h
  obtain ⟨kL, hLay⟩ := t6
  rw [p_Mo_hang.eq_1] at q
  have rn : r.toInt.toNat = (plc w1).toNat := by omega
  rcases j7 with ⟨a, b, cc, d⟩ | ⟨a, b, cc, d, f⟩
  · have q2 := (q.2 (fun z => z a)).2
    rw [show i.toInt.toNat = (plc w0).toNat by omega] at q2
    refine ⟨_, q2, ?_⟩
    have f7 : ∀ j, (sI w2 208 (plc w0).toNat r).1 207 j = w2.1 207 j := fun j => sI_oth _ _ _ _ _ _ (by decide)
    have f8 : ∀ j, ¬ j = (plc w0).toNat → (sI w2 208 (plc w0).toNat r).1 208 j = w2.1 208 j := fun j hj => sI_ne _ _ _ _ _ hj
    have f8s : (sI w2 208 (plc w0).toNat r).1 208 (plc w0).toNat = r := sI_same _ _ _ _
    have f9 : ∀ j, (sI w2 208 (plc w0).toNat r).1 209 j = w2.1 209 j := fun j => sI_oth _ _ _ _ _ _ (by decide)
    have f0 : ∀ j, (sI w2 208 (plc w0).toNat r).1 210 j = w2.1 210 j := fun j => sI_oth _ _ _ _ _ _ (by decide)
    have ep : plc (sI w2 208 (plc w0).toNat r) = plc w2 := rfl
    have K : KpL w2 (sI w2 208 (plc w0).toNat r) := ⟨rfl, rfl, fun c j a b => sI_oth _ _ _ _ _ _ (fun z => a (Or.inr (Or.inl z)))⟩
    generalize sI w2 208 (plc w0).toNat r = w3 at *
    have B := t3 (plc w0).toNat (by omega)
    refine ⟨kpl_t t1 K, kpl_t (kpl_t j1 t1) K, by omega, fun j hj => ?_, ?_, ?_, ⟨?_, fun j ja jb => ?_⟩, Or.inr ⟨by omega, by omega, by omega, ?_, ?_⟩⟩
    · have x := j3 j hj
      have y := t3 j (by omega)
      rw [f7, f8 j (by omega), f9, f0]
      exact ⟨y.1.trans x.1, y.2.1.trans x.2.1, y.2.2.1.trans x.2.2.1, y.2.2.2.trans x.2.2.2⟩
    · rw [f7, B.1]
      exact j4
    · rw [f9, B.2.2.1]
      exact j5
    · rw [f0, B.2.2.2]
      exact j6.1
    · rw [f0]
      by_cases z : (j : Int) < plc w1
      · rw [(t3 j z).2.2.2]
        exact j6.2 j ja z
      · exact t7 j (by omega) (by omega)
    · rw [f9, rn]
      exact t5
    · rw [b, f8s, ep, rn, hr]
      have e1 : (plc w0).toNat + 1 = (plc w1).toNat := by omega
      rw [e1, show plc w1 = (((plc w1).toNat : Nat) : Int) by omega]
      rw [show (((plc w1).toNat : Nat) : Int).toNat = (plc w1).toNat by omega]
      refine LayB_1 (k := kL) ?_ ?_
      · show (w3.1 207 (plc w1).toNat).toInt = _
        rw [f7]
        exact t4
      · have hL' : LayA ns (fun j => (w2.1 207 j).toInt) (fun j => (w2.1 208 j).toInt) (fun j => (w2.1 209 j).toInt) kL (kdl ns c) ((plc w1).toNat + 1) (w3.1 208 (plc w1).toNat).toInt (plc w2).toNat := by
          rw [f8 _ (by omega)]
          exact hLay
        exact LayA_g _ _ _ _ _ hL' (fun j ja jb => ⟨by rw [f7], by rw [f8 j (by omega)], by rw [f9]⟩)
  · have q2 := (q.1 (by omega)).2
    refine ⟨_, q2, ?_⟩
    have f7 : ∀ j, (sI w2 209 la.toInt.toNat r).1 207 j = w2.1 207 j := fun j => sI_oth _ _ _ _ _ _ (by decide)
    have f9 : ∀ j, ¬ j = la.toInt.toNat → (sI w2 209 la.toInt.toNat r).1 209 j = w2.1 209 j := fun j hj => sI_ne _ _ _ _ _ hj
    have f9s : (sI w2 209 la.toInt.toNat r).1 209 la.toInt.toNat = r := sI_same _ _ _ _
    have f8 : ∀ j, (sI w2 209 la.toInt.toNat r).1 208 j = w2.1 208 j := fun j => sI_oth _ _ _ _ _ _ (by decide)
    have f0 : ∀ j, (sI w2 209 la.toInt.toNat r).1 210 j = w2.1 210 j := fun j => sI_oth _ _ _ _ _ _ (by decide)
    have ep : plc (sI w2 209 la.toInt.toNat r) = plc w2 := rfl
    have K : KpL w2 (sI w2 209 la.toInt.toNat r) := ⟨rfl, rfl, fun c j a b => sI_oth _ _ _ _ _ _ (fun z => a (Or.inr (Or.inr (Or.inl z))))⟩
    generalize sI w2 209 la.toInt.toNat r = w3 at *
    have B := t3 (plc w0).toNat (by omega)
    refine ⟨kpl_t t1 K, kpl_t (kpl_t j1 t1) K, by omega, fun j hj => ?_, ?_, ?_, ⟨?_, fun j ja jb => ?_⟩, Or.inr ⟨by omega, by omega, by omega, ?_, ?_⟩⟩
    · have x := j3 j hj
      have y := t3 j (by omega)
      rw [f7, f8, f9 j (by omega), f0]
      exact ⟨y.1.trans x.1, y.2.1.trans x.2.1, y.2.2.1.trans x.2.2.1, y.2.2.2.trans x.2.2.2⟩
    · rw [f7, B.1]
      exact j4
    · rw [f9 _ (by omega), B.2.2.1]
      exact j5
    · rw [f0, B.2.2.2]
      exact j6.1
    · rw [f0]
      by_cases z : (j : Int) < plc w1
      · rw [(t3 j z).2.2.2]
        exact j6.2 j ja z
      · exact t7 j (by omega) (by omega)
    · rw [rn, f9 _ (by omega)]
      exact t5
    · rw [f8, B.2.1, ep, rn]
      have f' := LayB_g (N' := fun j => (w3.1 207 j).toInt) (F' := fun j => (w3.1 208 j).toInt) (X' := fun j => (w3.1 209 j).toInt) _ _ _ _ _ f (fun j ja jb => by
        have y := t3 j (by omega)
        exact ⟨by rw [f7, y.1], by rw [f8, y.2.1], fun nj => by rw [f9 j nj, y.2.2.1]⟩)
      refine LayB_s (k := kL) _ _ _ _ _ f' ?_ ?_ ?_
      · show (w3.1 209 la.toInt.toNat).toInt = _
        rw [f9s]
        omega
      · show (w3.1 207 (plc w1).toNat).toInt = _
        rw [f7]
        exact t4
      · have hL' : LayA ns (fun j => (w2.1 207 j).toInt) (fun j => (w2.1 208 j).toInt) (fun j => (w2.1 209 j).toInt) kL (kdl ns c) ((plc w1).toNat + 1) (w3.1 208 (plc w1).toNat).toInt (plc w2).toNat := by
          rw [f8]
          exact hLay
        exact LayA_g _ _ _ _ _ hL' (fun j ja jb => ⟨by rw [f7], by rw [f8], by rw [f9 j (by omega)]⟩)
/-- the kids of a node, one by one -/
theorem ly_kids {ns : List Nod} {nm : List Nm} {R : MW → Int32 → (Int32 → MW → Prop) → Prop} {a i : Int32} {n : Nat} {d : Nod} {w0 : MW} {E : MW → Prop} {Q : Int32 → MW → Prop} (hG : PGS ns nm) (hd : ns[n]? = some d) (ho : ¬ own d.1 = 0) (n23 : ¬ d.1 = 23) (ha : a.toInt = (n : Int)) (hi : i.toInt = plc w0) (p0 : 0 ≤ plc w0) (hR : ∀ (c : Nat) (ac : Int32) (w : MW) (Q : Int32 → MW → Prop), R w ac Q → ac.toInt = (c : Int) → StM ns w → StN nm w → OwA ns c → 0 ≤ plc w ∧ plc w ≤ 501 ∧ ∃ w', Q (w.1 127 60) w' ∧ LySp ns w c w') : ∀ (m : Nat) (la : Int32) (dn rs : List Nat) (w1 : MW), q_Mo_lay_131 R a i E Q m la (nI dn.length) w1 → dn ++ rs = d.2.2.2 → StM ns w1 → StN nm w1 → LyJ ns w0 (n : Int) 0 (dn.drop (nxp d.1)) la.toInt w1 → ∃ w', E w' ∧ LySp ns w0 n w' := by
  intro m
  induction m with
  | zero => exact fun _ _ _ _ h => False.elim h
  | succ m ih =>
    intro la dn rs w1 h eL hS hN hJ
    have nl := (List.getElem?_eq_some_iff.mp hd).1
    have l3 := hS.1
    have q := hS.2.2 n d hd
    have q5 := q.2.2.2.2.1
    have el := congrArg List.length eL
    rw [List.length_append] at el
    rw [q_Mo_lay_131.eq_2, p_Mo_kids.eq_1, p_Tx_node1.eq_1, ndx hS ha (by omega)] at h
    have h1 := h.2
    rw [q.2.2.2.1] at h1
    have tn : (nI dn.length).toInt = (dn.length : Int) := nI_toInt (by omega)
    cases rs with
    | nil =>
      rw [List.append_nil] at eL
      have h2 := h1.1 (by rw [tn, ← eL]; exact Int.le_refl _)
      refine ⟨_, h2, ly_end p0 hJ ?_⟩
      rw [kdl_o hd n23, eL]
    | cons c rs =>
      rw [List.length_cons] at el
      have h2 := h1.2 (by rw [tn]; omega)
      have hk : d.2.2.2[dn.length]? = some c := by
        rw [← eL, List.getElem?_append_right (Nat.le_refl _), Nat.sub_self]
        rfl
      obtain ⟨r10, e10, h3⟩ := kd_x hS ha hd hk tn h2
      have cl : c < n := (hG.2.1 n d hd).1 c (by rw [← eL]; exact List.mem_append_right _ List.mem_cons_self)
      rw [p_Tx_node1.eq_1, ndx hS e10 (by omega)] at h3
      have h4 := h3.2
      have eL2 : (dn ++ [c]) ++ rs = d.2.2.2 := by
        rw [List.append_assoc]
        exact eL
      have en : nI dn.length + (1 : Int32) = nI (dn ++ [c]).length := by
        rw [nI_1, List.length_append, List.length_singleton]
      by_cases z : dn.length < nxp d.1
      · obtain ⟨dc, hdc, wc⟩ := kd_e hG hd ho hk z
        have qc := (hS.2.2 c dc hdc).1
        have h5 := h4.1 (by rw [qc]; exact wc)
        rw [en] at h5
        refine ih la (dn ++ [c]) rs w1 h5 eL2 hS hN ?_
        rw [List.drop_eq_nil_of_le (by rw [List.length_append, List.length_singleton]; omega)]
        rw [List.drop_eq_nil_of_le (by omega)] at hJ
        exact hJ
      · have oc : OwA ns c := owb_a (hG.1 n d hd ho c (by
          rw [← eL2, List.drop_append_of_le_length (by rw [List.length_append]; omega), List.drop_append_of_le_length (by omega)]
          exact List.mem_append_left _ (List.mem_append_right _ (List.mem_singleton.mpr rfl))))
        obtain ⟨dc, hdc, odc⟩ := id oc
        have qc := (hS.2.2 c dc hdc).1
        have wc := own_10 odc
        have h5 := h4.2 (by rw [qc]; omega)
        obtain ⟨pa, pb, w2, h6, t⟩ := hR c r10 w1 _ h5 e10 hS hN oc
        obtain ⟨w3, h7, K3, J3⟩ := ly_hang p0 pb hi hJ t (show (w1.1 127 60).toInt = plc w1 from rfl) h6
        rw [en] at h7
        refine ih _ (dn ++ [c]) rs w3 h7 eL2 (kpl_s hS K3) (kpl_n hN K3) ?_
        rw [List.drop_append_of_le_length (by omega)]
        exact J3
/-- a place is opened -/
theorem ly_open {ns : List Nod} {w : MW} {a : Int32} {n : Nat} (ha : a.toInt = (n : Int)) (p0 : 0 ≤ (w.1 127 60).toInt) (p5 : (w.1 127 60).toInt ≤ 501) : LyJ ns w (n : Int) 0 [] (-1) (sI (sI (sI (sI (sI w 127 60 ((w.1 127 60) + (1 : Int32))) 207 ((w.1 127 60).toInt.toNat) a) 210 ((w.1 127 60).toInt.toNat) (vp_nar .boolean (0 : Int32))) 208 ((w.1 127 60).toInt.toNat) (-1)) 209 ((w.1 127 60).toInt.toNat) (-1)) := by
  have sp := ti_add2 (Eq.refl (w.1 127 60).toInt) i_1 (by omega) (by omega)
  have hp : plc w = (w.1 127 60).toInt := rfl
  unfold LyJ
  rw [hp]
  generalize hP : (w.1 127 60).toInt.toNat = p at *
  have pi : (p : Int) = (w.1 127 60).toInt := by omega
  have e60 : plc (sI (sI (sI (sI (sI w 127 60 ((w.1 127 60) + (1 : Int32))) 207 p a) 210 p (vp_nar .boolean (0 : Int32))) 208 p (-1)) 209 p (-1)) = (w.1 127 60).toInt + 1 := sp
  rw [e60]
  have r7 : ∀ j, (sI (sI (sI (sI (sI w 127 60 ((w.1 127 60) + (1 : Int32))) 207 p a) 210 p (vp_nar .boolean (0 : Int32))) 208 p (-1)) 209 p (-1)).1 207 j = (sI w 207 p a).1 207 j := fun j => rfl
  have r8 : ∀ j, (sI (sI (sI (sI (sI w 127 60 ((w.1 127 60) + (1 : Int32))) 207 p a) 210 p (vp_nar .boolean (0 : Int32))) 208 p (-1)) 209 p (-1)).1 208 j = (sI w 208 p (-1)).1 208 j := fun j => rfl
  have r9 : ∀ j, (sI (sI (sI (sI (sI w 127 60 ((w.1 127 60) + (1 : Int32))) 207 p a) 210 p (vp_nar .boolean (0 : Int32))) 208 p (-1)) 209 p (-1)).1 209 j = (sI w 209 p (-1)).1 209 j := fun j => rfl
  have r0 : ∀ j, (sI (sI (sI (sI (sI w 127 60 ((w.1 127 60) + (1 : Int32))) 207 p a) 210 p (vp_nar .boolean (0 : Int32))) 208 p (-1)) 209 p (-1)).1 210 j = (sI w 210 p (vp_nar .boolean (0 : Int32))).1 210 j := fun j => rfl
  refine ⟨⟨rfl, rfl, fun c j n1 n2 => ?_⟩, by omega, fun j hj => ?_, ?_, ?_, ⟨?_, fun j ja jb => by omega⟩, Or.inl ⟨rfl, rfl, ?_, rfl⟩⟩
  · rw [sI_oth _ _ _ _ _ _ (fun z => n1 (by omega)), sI_oth _ _ _ _ _ _ (fun z => n1 (by omega)), sI_oth _ _ _ _ _ _ (fun z => n1 (by omega)), sI_oth _ _ _ _ _ _ (fun z => n1 (by omega)), sI_at, if_neg n2]
  · rw [r7, r8, r9, r0, sI_ne _ _ _ _ _ (by omega), sI_ne _ _ _ _ _ (by omega), sI_ne _ _ _ _ _ (by omega), sI_ne _ _ _ _ _ (by omega)]
    exact ⟨rfl, rfl, rfl, rfl⟩
  · rw [r7, sI_same]
    exact ha
  · rw [r9, sI_same]
    decide
  · rw [r0, sI_same]
    exact nb_bool0
  · rw [r8, sI_same]
    decide
/-- THE REFERENCE LAYS A NODE OUT -/
theorem ly_x {ns : List Nod} {nm : List Nm} (hG : PGS ns nm) : ∀ (M c : Nat) (ac : Int32) (w : MW) (Q : Int32 → MW → Prop), pn_Mo_lay M w ac Q → ac.toInt = (c : Int) → StM ns w → StN nm w → OwA ns c → 0 ≤ plc w ∧ plc w ≤ 501 ∧ ∃ w', Q (w.1 127 60) w' ∧ LySp ns w c w' := by
  intro M
  induction M with
  | zero => exact fun _ _ _ _ h => False.elim h
  | succ M ih =>
    intro c ac w Q h ha hS hN hO
    rw [pe_Mo_lay, pb_Mo_lay.eq_1] at h
    obtain ⟨pb, _, _, _, h1⟩ := h
    have hp : plc w = (w.1 127 60).toInt := rfl
    refine ⟨by omega, by omega, ?_⟩
    obtain ⟨d, hd, od⟩ := id hO
    have cl := (List.getElem?_eq_some_iff.mp hd).1
    have J0 := ly_open (ns := ns) (w := w) ha pb.1 (by omega)
    generalize (sI (sI (sI (sI (sI w 127 60 ((w.1 127 60) + (1 : Int32))) 207 ((w.1 127 60).toInt.toNat) ac) 210 ((w.1 127 60).toInt.toNat) (vp_nar .boolean (0 : Int32))) 208 ((w.1 127 60).toInt.toNat) (-1)) 209 ((w.1 127 60).toInt.toNat) (-1)) = w5 at *
    have S5 := kpl_s hS J0.1
    have N5 := kpl_n hN J0.1
    have l3 := hS.1
    rw [p_Tx_node1.eq_1, ndx S5 ha (by omega)] at h1
    have h2 := h1.2
    have q := S5.2.2 c d hd
    rw [q.1] at h2
    have w19 := (wht_23 d.1).1
    by_cases k23 : d.1 = 23
    · have h3 := h2.2 (fun z => z (w19.mpr k23))
      rw [p_Tx_node1.eq_1, ndx S5 ha (by omega)] at h3
      obtain ⟨_, ⟨l, u, el, e0⟩, b0, _⟩ := (hG.2.1 c d hd).2 k23
      obtain ⟨ix, xn, hxn, ej, x10, xb2, b00⟩ := lkn_x el e0
      have il := (List.getElem?_eq_some_iff.mp hxn).1
      have n40 := N5.1
      have e2 := q.2.2.1 (by omega) (by omega)
      have en := nb_l2i (x := w5.2.1 132 (nd1 w5 (c : Int))) (by omega) (by omega)
      have b12 := S5.2.1
      have m := ti_mul2 (by decide : ((40 : Int32)).toInt = 40) (Eq.refl (w5.1 129 12).toInt) (by omega) (by omega)
      have s2 := ti_add2 m en (by omega) (by omega)
      have h4 := h3.2.2
      rw [s2, e2, ej] at h4
      have st := N5.2 ix xn hxn (by omega)
      have wn := hG.2.2.1 ix xn hxn (by omega)
      have wl := (List.getElem?_eq_some_iff.mp wn).1
      obtain ⟨r20, e20, h5⟩ := kd_x (k := 0) (c := xn.2.2.2.toNat) (i := (xn.2.2.2 + 1).toNat) S5 (by rw [st]; omega) wn rfl (by decide) h4
      have ob : OwA ns xn.2.2.2.toNat := by
        obtain ⟨db, hdb, e35⟩ := hG.2.2.2.2.2.1 ix xn hxn (by omega)
        exact ⟨db, hdb, by rw [e35]; decide⟩
      obtain ⟨pa, pb2, w6, h6, t⟩ := ih xn.2.2.2.toNat r20 w5 _ h5 e20 S5 N5 ob
      have J1 : LyJ ns w (c : Int) 0 [] (-1 : Int32).toInt w5 := J0
      have hang : p_Mo_hang w6 (w.1 127 60) (-1) (w5.1 127 60) (fun r w' => Q (w.1 127 60) w') := Eq.mpr (p_Mo_hang.eq_1 _ _ _ _ _) ⟨fun z => absurd (by decide) z, fun _ => ⟨⟨by omega, by omega⟩, h6.2⟩⟩
      obtain ⟨w7, h7, _, J7⟩ := ly_hang (Q := fun r w' => Q (w.1 127 60) w') (by omega) pb2 rfl J1 t rfl hang
      refine ⟨w7, h7, ly_end (by omega) J7 ?_⟩
      rw [kdl_23 hd k23, ← xb2]
      rfl
    · have h3 := h2.1 (fun z => k23 (w19.mp z))
      obtain ⟨w', h4, t⟩ := ly_kids (i := w.1 127 60) hG hd od k23 ha rfl (by omega) ih FU (-1) [] d.2.2.2 w5 h3 rfl S5 N5 (by rw [List.drop_nil]; exact J0)
      exact ⟨w', h4, t⟩
/-- WHAT STANDS OUTSIDE is laid out at the start -/
theorem ls_134 {ns : List Nod} {nm : List Nm} {ts ks : List Nat} {w0 : MW} {E : MW → Prop} {Q : Int32 → MW → Prop} (hG : PGS ns nm) (p0 : plc w0 = 0) (hO : ∀ c ∈ ks, OwA ns c) : ∀ (m : Nat) (la : Int32) (dn rs : List Nat) (w1 : MW), q_Mo_start_134 E Q m la (nI dn.length) w1 → dn ++ rs = ts ++ ks → (ts ++ ks).length ≤ 300 → StM ns w1 → StN nm w1 → TpW w1 ts ks → LyJ ns w0 (-1) 1 (dn.drop ts.length) la.toInt w1 → ∃ w' la', E w' ∧ LyJ ns w0 (-1) 1 ks la' w' := by
  intro m
  induction m with
  | zero => exact fun _ _ _ _ h => False.elim h
  | succ m ih =>
    intro la dn rs w1 h eL l300 hS hN hT hJ
    have el := congrArg List.length eL
    rw [List.length_append] at el
    have tn : (nI dn.length).toInt = (dn.length : Int) := nI_toInt (by omega)
    rw [q_Mo_start_134.eq_2, hT.1, tn] at h
    cases rs with
    | nil =>
      rw [List.append_nil] at eL
      have h2 := h.1 (by rw [← eL]; exact Int.le_refl _)
      refine ⟨w1, la.toInt, h2, ?_⟩
      rw [eL, List.drop_left] at hJ
      exact hJ
    | cons c rs =>
      rw [List.length_cons] at el
      have h2 := (h.2 (by omega)).2
      have hk : (ts ++ ks)[dn.length]? = some c := by
        rw [← eL, List.getElem?_append_right (Nat.le_refl _), Nat.sub_self]
        rfl
      have b12 := hS.2.1
      have mm := ti_mul2 (by decide : ((300 : Int32)).toInt = 300) (Eq.refl (w1.1 129 12).toInt) (by omega) (by omega)
      have ss := ti_add2 mm tn (by omega) (by omega)
      have tc := hT.2.1 dn.length c hk
      rw [ss] at h2
      have en : nI dn.length + (1 : Int32) = nI (dn ++ [c]).length := by
        rw [nI_1, List.length_append, List.length_singleton]
      have eL2 : (dn ++ [c]) ++ rs = ts ++ ks := by
        rw [List.append_assoc]
        exact eL
      have cm : c ∈ ts ++ ks := List.mem_of_getElem? hk
      have c3 : c < 300 := by
        rcases List.mem_append.mp cm with z | z
        · exact (hT.2.2.1 c z).1
        · exact (hT.2.2.2 c z).1
      rw [p_Tx_node1.eq_1, ndx hS tc c3] at h2
      have h3 := h2.2
      by_cases z : dn.length < ts.length
      · have ct : c ∈ ts := by
          rw [List.getElem?_append_left z] at hk
          exact List.mem_of_getElem? hk
        have h4 := h3.1 (hT.2.2.1 c ct).2
        rw [en] at h4
        refine ih la (dn ++ [c]) rs w1 h4 eL2 l300 hS hN hT ?_
        rw [List.drop_eq_nil_of_le (by rw [List.length_append, List.length_singleton]; omega)]
        rw [List.drop_eq_nil_of_le (by omega)] at hJ
        exact hJ
      · have ct : c ∈ ks := by
          rw [List.getElem?_append_right (by omega)] at hk
          exact List.mem_of_getElem? hk
        have h4 := h3.2 (by rw [(show (w1.1 131 (nd1 w1 (c : Int))).toInt = (w1.1 131 (300 * (w1.1 129 12).toInt + (c : Int)).toNat).toInt from rfl)]; have := (hT.2.2.2 c ct).2; omega)
        obtain ⟨pa, pb, w2, h6, t⟩ := ly_x hG _ c _ w1 _ (show pn_Mo_lay 510 w1 _ _ from h4) tc hS hN (hO c ct)
        obtain ⟨w3, h7, K3, J3⟩ := ly_hang (i := 0) (by omega) pb (by rw [p0]; decide) hJ t (show (w1.1 127 60).toInt = plc w1 from rfl) h6
        rw [en] at h7
        have S3 := kpl_s hS K3
        refine ih _ (dn ++ [c]) rs w3 h7 eL2 l300 S3 (kpl_n hN K3) ?_ ?_
        · have e12 : w3.1 129 12 = w1.1 129 12 := K3.2.2 129 12 (by decide) (by decide)
          refine ⟨by rw [K3.2.2 129 31 (by decide) (by decide)]; exact hT.1, fun k c hk => ?_, fun t ht => ?_, fun t ht => ?_⟩
          · rw [e12, K3.2.2 138 _ (by decide) (fun z => absurd z.1 (by decide))]
            exact hT.2.1 k c hk
          · rw [e12, K3.2.2 131 _ (by decide) (fun z => absurd z.1 (by decide))]
            exact hT.2.2.1 t ht
          · rw [e12, K3.2.2 131 _ (by decide) (fun z => absurd z.1 (by decide))]
            exact hT.2.2.2 t ht
        · rw [List.drop_append_of_le_length (by omega)]
          exact J3
