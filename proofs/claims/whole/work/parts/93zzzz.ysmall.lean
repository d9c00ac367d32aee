/-! the reference: whether a program is small, exactly -/
theorem own_w (k : Int) : own k = if wht k < 10 then 0 else if 23 < wht k then 0 else 1 := by
  have t : ∀ j : Nat, j < 63 → own (j : Int) = if wht (j : Int) < 10 then 0 else if 23 < wht (j : Int) then 0 else 1 := by decide +kernel
  by_cases c : 0 ≤ k ∧ k < 63
  · have := t k.toNat (by omega)
    rw [show ((k.toNat : Nat) : Int) = k by omega] at this
    exact this
  · have m : mng k = -1 := by
      unfold mng
      rw [if_neg (by omega), if_neg (by omega), if_neg (by omega), if_neg (by omega), if_neg (by omega), if_neg (by omega), if_neg (by omega), if_neg (by omega), if_neg (by omega), if_neg (by omega), if_neg (by omega), if_neg (by omega), if_neg (by omega), if_neg (by omega), if_neg (by omega), if_neg (by omega), if_neg (by omega), if_neg (by omega), if_neg (by omega), if_neg (by omega), if_neg (by omega), if_neg (by omega), if_neg (by omega), if_neg (by omega), if_neg (by omega), if_neg (by omega)]
    have w : wht k = -1 := by
      unfold wht
      rw [if_neg (by omega), if_neg (by omega), if_neg (by omega), if_neg (by omega), if_neg (by omega), if_neg (by omega), if_neg (by omega), if_neg (by omega), if_neg (by omega), if_neg (by omega), if_neg (by omega)]
      exact m
    rw [w, if_pos (by decide)]
    unfold own
    refine if_neg (fun z => ?_)
    rcases z with z | z
    · have := isS_t.mp z
      omega
    · omega
theorem wht_23 (k : Int) : (wht k = 19 ↔ k = 23) ∧ (wht k = 23 ↔ k = 35) ∧ (wht k = 24 ↔ k = 10) := by
  have t : ∀ j : Nat, j < 63 → (wht (j : Int) = 19 ↔ (j : Int) = 23) ∧ (wht (j : Int) = 23 ↔ (j : Int) = 35) ∧ (wht (j : Int) = 24 ↔ (j : Int) = 10) := by decide +kernel
  by_cases c : 0 ≤ k ∧ k < 63
  · have := t k.toNat (by omega)
    rw [show ((k.toNat : Nat) : Int) = k by omega] at this
    exact this
  · have m : mng k = -1 := by
      unfold mng
      rw [if_neg (by omega), if_neg (by omega), if_neg (by omega), if_neg (by omega), if_neg (by omega), if_neg (by omega), if_neg (by omega), if_neg (by omega), if_neg (by omega), if_neg (by omega), if_neg (by omega), if_neg (by omega), if_neg (by omega), if_neg (by omega), if_neg (by omega), if_neg (by omega), if_neg (by omega), if_neg (by omega), if_neg (by omega), if_neg (by omega), if_neg (by omega), if_neg (by omega), if_neg (by omega), if_neg (by omega), if_neg (by omega), if_neg (by omega)]
    have w : wht k = -1 := by
      unfold wht
      rw [if_neg (by omega), if_neg (by omega), if_neg (by omega), if_neg (by omega), if_neg (by omega), if_neg (by omega), if_neg (by omega), if_neg (by omega), if_neg (by omega), if_neg (by omega), if_neg (by omega)]
      exact m
    rw [w]
    omega
theorem smC_c (acc : List (Int × Int)) (a : Int) (k : Nat) (l : List Nat) : smC acc a (k :: l) = smC acc (a + gC acc k) l := rfl
theorem mxD_c (acc : List (Int × Int)) (a : Int) (k : Nat) (l : List Nat) : mxD acc a (k :: l) = mxD acc (if gD acc k ≤ a then a else gD acc k) l := rfl
/-- the kids of a node, counted -/
theorem xs_57 {v w0 : MW} {N x1 x3 : Int32} {kids : List Nat} {acc : List (Int × Int)} {A B : Int} {E : MW → Prop} {Q : Int32 → MW → Prop} (hI : BND v) (N0 : 0 ≤ N.toInt) (N1 : N.toInt < 300) (hc : (v.1 136 (nb v N.toInt)).toInt = (kids.length : Int)) (hl : (v.1 135 (nb v N.toInt)).toInt + (kids.length : Int) ≤ 300) (hk : ∀ (k c : Nat), kids[k]? = some c → (v.1 137 (nb v ((v.1 135 (nb v N.toInt)).toInt + (k : Int)))).toInt = (c : Int)) (lt : ∀ c ∈ kids, (c : Int) < N.toInt) (hF : FR lsm v w0) (I0 : BND w0) (hg : ∀ c : Nat, (c : Int) < N.toInt → (w0.1 145 c).toInt = gC acc c ∧ (w0.1 146 c).toInt = gD acc c) (hE : ∀ (a b : Int32) (w' : MW), WSm w0 N.toInt.toNat a b w' → a.toInt = A → b.toInt = B → 0 ≤ a.toInt → a.toInt ≤ 1 + 501 * 300 → 0 ≤ b.toInt → b.toInt ≤ 301 → E w') (m : Nat) : ∀ (j : Nat) (a b : Int32) (w : MW), WSm w0 N.toInt.toNat a b w → j ≤ kids.length → smC acc a.toInt (kids.drop j) = A → mxD acc b.toInt (kids.drop j) = B → 0 ≤ a.toInt → a.toInt ≤ 1 + 501 * (j : Int) → 0 ≤ b.toInt → b.toInt ≤ 301 → kids.length - j < m → q_Tx_isSmall_57 x1 N x3 E Q m (nI j) w := by
  induction m with
  | zero => intros; omega
  | succ m ih =>
    intro j a b w hW hj hA hB a0 a1 b0 b1 hm
    have hG : FR lsm v w := hF.tr hW.fr rfl
    have bh := bhf_b hI
    have b135 := bd_135 hI (nb v N.toInt)
    have e := bb_ix (n := N) hI N0 (by omega)
    have en : (((300 : Int32) * ((1 : Int32) - (v.1 129 12))) + N).toInt.toNat = nb v N.toInt := by rw [e]; rfl
    have e12 : w.1 129 12 = v.1 129 12 := (hG 129 12 rfl).1
    have e135 : ∀ j, w.1 135 j = v.1 135 j := fun j => (hG 135 j rfl).1
    have e136 : ∀ j, w.1 136 j = v.1 136 j := fun j => (hG 136 j rfl).1
    have e137 : ∀ j, w.1 137 j = v.1 137 j := fun j => (hG 137 j rfl).1
    have tj : (nI j).toInt = (j : Int) := nI_toInt (by omega)
    rw [q_Tx_isSmall_57.eq_2]
    refine Eq.mpr (p_Tx_base.eq_1 _ _) ?_
    rw [e12, e136, en, hc]
    refine ⟨⟨by omega, by omega⟩, fun c => ?_, fun c => Eq.mpr (p_Tx_base.eq_1 _ _) (Eq.mpr (p_Tx_base.eq_1 _ _) ?_)⟩
    · have ej : kids.drop j = [] := List.drop_eq_nil_iff.mpr (by omega)
      rw [ej] at hA hB
      exact hE a b w hW hA hB a0 (by omega) b0 b1
    · rw [e12, e135, e137]
      have jl : j < kids.length := by omega
      have ed : kids.drop j = kids[j] :: kids.drop (j + 1) := List.drop_eq_getElem_cons jl
      have kx := kd_ix (n := N) (k := nI j) hI N0 N1 (by omega) (by omega)
      have g := hk j _ (List.getElem?_eq_getElem jl)
      have lj := lt _ (List.getElem_mem jl)
      have kk : (v.1 137 ((((300 : Int32) * ((1 : Int32) - (v.1 129 12))) + (v.1 135 ((((300 : Int32) * ((1 : Int32) - (v.1 129 12))) + N).toInt.toNat))) + (nI j)).toInt.toNat).toInt = (kids[j] : Int) := by
        have kn : ((((300 : Int32) * ((1 : Int32) - (v.1 129 12))) + (v.1 135 ((((300 : Int32) * ((1 : Int32) - (v.1 129 12))) + N).toInt.toNat))) + (nI j)).toInt.toNat = nb v ((v.1 135 (nb v N.toInt)).toInt + (j : Int)) := by
          rw [kx, tj, Int.add_assoc]
          rfl
        rw [kn]
        exact g
      have s1' := nI_1 j
      have o1 : ∀ i : Nat, i ≠ N.toInt.toNat → w.1 145 i = w0.1 145 i ∧ w.1 146 i = w0.1 146 i := fun i hi => ⟨hW.1 145 i (fun q => hi q.2) (fun q => absurd q.1 (by decide)), hW.1 146 i (fun q => absurd q.1 (by decide)) (fun q => hi q.2)⟩
      rw [kk]
      have kz := o1 (kids[j] : Int).toNat (by omega)
      have gz := hg kids[j] lj
      have tn : ((kids[j] : Nat) : Int).toNat = kids[j] := by omega
      have cz := bd_145 I0 (kids[j] : Int).toNat
      have cz6 := bd_146 I0 (kids[j] : Int).toNat
      rw [hW.2.2.1, hW.2.2.2, kz.1, kz.2, tn]
      rw [tn] at cz cz6
      have sa := ti_add2 (Eq.refl a.toInt) (Eq.refl (w0.1 145 kids[j]).toInt) (by omega) (by omega)
      rw [ed, smC_c] at hA
      rw [ed, mxD_c] at hB
      rw [s1']
      refine ⟨⟨by omega, by omega⟩, ⟨by omega, by omega⟩, ⟨by omega, by omega⟩, ⟨by omega, by omega⟩, ⟨by omega, by omega⟩, ⟨by omega, by omega⟩, ⟨by omega, by omega⟩, fun le => ⟨⟨by omega, by omega⟩, ⟨by omega, by omega⟩, ih (j + 1) _ _ _ hW.set jl (by rw [sa, gz.1]; exact hA) (by rw [if_pos (by omega)] at hB; exact hB) (by omega) (by omega) b0 b1 (by omega)⟩, fun gt => ⟨⟨by omega, by omega⟩, ⟨by omega, by omega⟩, ih (j + 1) _ _ _ hW.set jl (by rw [sa, gz.1]; exact hA) (by rw [if_neg (by omega)] at hB; rw [gz.2]; exact hB) (by omega) (by omega) (by omega) (by omega) (by omega)⟩⟩
theorem xs_281 {w0 w : MW} {N x1 a b y d : Int32} {A : Int32 → MW → Prop} {E : MW → Prop} {Q : Int32 → MW → Prop} (hW : WSm w0 N.toInt.toNat a b w) (N0 : 0 ≤ N.toInt) (N1 : N.toInt < 300) (a0 : 0 ≤ a.toInt) (hA : ∀ (a' : Int32) (w' : MW), WSm w0 N.toInt.toNat a' (d + y) w' → a'.toInt = cap a.toInt → A (N + (1 : Int32)) w') : q_Tx_isSmall_281 x1 N y d N w A E Q := by
  refine Eq.mpr (q_Tx_isSmall_281.eq_1 _ _ _ _ _ _ _ _ _) ⟨⟨N0, N1⟩, ⟨N0, N1⟩, fun c => ⟨⟨N0, N1⟩, ⟨N0, N1⟩, ?_⟩, fun c => ⟨⟨N0, N1⟩, ?_⟩⟩
  · rw [hW.2.2.1] at c ⊢
    exact hA a _ hW.set2 (by unfold cap; rw [if_pos c])
  · rw [hW.2.2.1] at c
    exact hA 501 _ hW.set2 (by unfold cap; rw [if_neg c]; decide)
theorem csl_p : ∀ (ns : List Nod) (acc : List (Int × Int)), ∃ t, csl ns acc = acc ++ t := by
  intro ns
  induction ns with
  | nil => exact fun acc => ⟨[], (List.append_nil acc).symm⟩
  | cons d ns ih =>
    intro acc
    obtain ⟨t, e⟩ := ih (acc ++ [cs1 acc d])
    exact ⟨cs1 acc d :: t, by rw [show csl (d :: ns) acc = csl ns (acc ++ [cs1 acc d]) from rfl, e, List.append_assoc]; rfl⟩
theorem gC_a {acc t : List (Int × Int)} {i : Nat} (h : i < acc.length) : gC (acc ++ t) i = gC acc i ∧ gD (acc ++ t) i = gD acc i := by
  unfold gC gD
  rw [List.getD_eq_getElem?_getD, List.getD_eq_getElem?_getD, List.getElem?_append_left h]
  exact ⟨rfl, rfl⟩
theorem smC_g {acc acc' : List (Int × Int)} : ∀ (l : List Nat) (a : Int), (∀ c ∈ l, gC acc' c = gC acc c) → smC acc' a l = smC acc a l := by
  intro l
  induction l with
  | nil => exact fun _ _ => rfl
  | cons k l ih =>
    intro a h
    rw [smC_c, smC_c, h k List.mem_cons_self]
    exact ih _ (fun c hc => h c (List.mem_cons_of_mem _ hc))
theorem mxD_g {acc acc' : List (Int × Int)} : ∀ (l : List Nat) (a : Int), (∀ c ∈ l, gD acc' c = gD acc c) → mxD acc' a l = mxD acc a l := by
  intro l
  induction l with
  | nil => exact fun _ _ => rfl
  | cons k l ih =>
    intro a h
    rw [mxD_c, mxD_c, h k List.mem_cons_self]
    exact ih _ (fun c hc => h c (List.mem_cons_of_mem _ hc))
/-- the cost and depth of node N -/
theorem cs_at {ns : List Nod} {N : Nat} {d : Nod} (h : ns[N]? = some d) (hk : ∀ c ∈ d.2.2.2, c < N) (hd : d.1 = 23 → d.2.2.1.toNat < N) : gC (csl ns []) N = (cs1 (csl ns []) d).1 ∧ gD (csl ns []) N = (cs1 (csl ns []) d).2 := by
  have l := (List.getElem?_eq_some_iff.mp h)
  have e : ns = ns.take N ++ (d :: ns.drop (N + 1)) := by
    have t := (List.take_append_drop N ns).symm
    rw [List.drop_eq_getElem_cons l.1, l.2] at t
    exact t
  have e2 : csl ns [] = csl (ns.drop (N + 1)) (csl (ns.take N) [] ++ [cs1 (csl (ns.take N) []) d]) := by
    rw [e, csl_a]
    have t1 : (ns.take N ++ (d :: ns.drop (N + 1))).take N = ns.take N := by rw [← e]
    have t2 : (ns.take N ++ (d :: ns.drop (N + 1))).drop (N + 1) = ns.drop (N + 1) := by rw [← e]
    rw [t1, t2]
    rfl
  obtain ⟨t, e3⟩ := csl_p (ns.drop (N + 1)) (csl (ns.take N) [] ++ [cs1 (csl (ns.take N) []) d])
  have nlt := (List.getElem?_eq_some_iff.mp h).1
  have len : (csl (ns.take N) []).length = N := by
    rw [csl_l, List.length_take]
    show 0 + _ = N
    omega
  have low : ∀ c : Nat, c < N → gC (csl ns []) c = gC (csl (ns.take N) []) c ∧ gD (csl ns []) c = gD (csl (ns.take N) []) c := fun c hc => by
    rw [e2, e3, List.append_assoc]
    exact gC_a (by omega)
  have eq : cs1 (csl ns []) d = cs1 (csl (ns.take N) []) d := by
    unfold cs1
    by_cases q : d.1 = 23
    · rw [if_pos q, if_pos q, (low _ (hd q)).1, (low _ (hd q)).2]
    · rw [if_neg q, if_neg q, smC_g _ _ (fun c hc => (low c (hk c hc)).1), mxD_g _ _ (fun c hc => (low c (hk c hc)).2)]
  have at' : (csl ns [])[N]? = some (cs1 (csl (ns.take N) []) d) := by
    rw [e2, e3, List.append_assoc, List.getElem?_append_right (by omega), len, Nat.sub_self]
    rfl
  rw [eq]
  unfold gC gD
  rw [List.getD_eq_getElem?_getD, at']
  exact ⟨rfl, rfl⟩
/-- the nodes below x are counted -/
def XSm (v : MW) (acc : List (Int × Int)) (x : Int) (w : MW) : Prop := BND w ∧ FR lsm v w ∧ ∀ c : Nat, (c : Int) < x → (w.1 145 c).toInt = gC acc c ∧ (w.1 146 c).toInt = gD acc c
/-- what the reference has of a do -/
def DOf (v : MW) (N : Int) (d : Nod) : Prop := (0 ≤ numB v N ∧ numB v N < 40) ∧ (0 ≤ stB v (numB v N) ∧ stB v (numB v N) < N) ∧ (v.1 135 (nb v (stB v (numB v N)))).toInt < 300 ∧ kidB v (stB v (numB v N)) 0 = d.2.2.1 ∧ 0 ≤ d.2.2.1 ∧ d.2.2.1 < N
theorem xs_step {v w w' : MW} {acc : List (Int × Int)} {N a b : Int32} (h : XSm v acc N.toInt w) (N0 : 0 ≤ N.toInt) (N1 : N.toInt < 300) (hW : WSm w N.toInt.toNat a b w') (ha : a.toInt = gC acc N.toInt.toNat) (hb : b.toInt = gD acc N.toInt.toNat) (a0 : 0 ≤ a.toInt) (a1 : a.toInt ≤ 501) (b0 : 0 ≤ b.toInt) (b1 : b.toInt ≤ 301) : XSm v acc (N.toInt + 1) w' := by
  refine ⟨hW.bnd h.1 a0 a1 b0 b1, h.2.1.tr hW.fr rfl, fun c hc => ?_⟩
  by_cases q : c = N.toInt.toNat
  · rw [q, hW.2.2.1, hW.2.2.2]
    exact ⟨ha, hb⟩
  · rw [hW.1 145 c (fun z => q z.2) (fun z => absurd z.1 (by decide)), hW.1 146 c (fun z => absurd z.1 (by decide)) (fun z => q z.2)]
    exact h.2.2 c (by omega)
theorem cap_b {a : Int} (h : 0 ≤ a) : 0 ≤ cap a ∧ cap a ≤ 501 := by
  unfold cap
  by_cases c : a ≤ 500
  · rw [if_pos c]
    omega
  · rw [if_neg c]
    omega
theorem xs_46 {v w : MW} {acc : List (Int × Int)} {N x1 K c0 : Int32} {d : Nod} {A : Int32 → MW → Prop} {E : MW → Prop} {Q : Int32 → MW → Prop} (hI : BND v) (hJ : XSm v acc N.toInt w) (N0 : 0 ≤ N.toInt) (N3 : N.toInt < 300) (P : PNd v N.toInt d) (h21 : (v.1 129 21).toInt ≤ 300) (lt : ∀ c ∈ d.2.2.2, (c : Int) < N.toInt) (hD : d.1 = 23 → d.2.2.2 = [] ∧ DOf v N.toInt d) (hat : gC acc N.toInt.toNat = (cs1 acc d).1 ∧ gD acc N.toInt.toNat = (cs1 acc d).2) (gb : ∀ c : Nat, (c : Int) < N.toInt → gD acc c ≤ (c : Int) + 1) (gN : gD acc N.toInt.toNat ≤ N.toInt + 1) (hK : K.toInt = wht d.1) (hc : c0.toInt = own d.1) (hA : ∀ w', XSm v acc (N.toInt + 1) w' → A (N + (1 : Int32)) w') : q_Tx_isSmall_46 x1 N K c0 N w A E Q := by
  have wk := wht_23 d.1
  have c01 : 0 ≤ c0.toInt ∧ c0.toInt ≤ 1 := by
    rw [hc]
    unfold own
    by_cases q : isS d.1 = true ∨ d.1 = 35
    · rw [if_pos q]
      decide
    · rw [if_neg q]
      decide
  have bh := bhf_b hI
  refine Eq.mpr (q_Tx_isSmall_46.eq_1 _ _ _ _ _ _ _ _ _) ⟨⟨N0, N3⟩, ⟨N0, N3⟩, xs_57 (acc := acc) (kids := d.2.2.2) (A := smC acc (own d.1) d.2.2.2) (B := mxD acc 0 d.2.2.2) hI N0 N3 P.2.2.2.1 (by have := P.2.2.2.2.1; omega) P.2.2.2.2.2 lt hJ.2.1 hJ.1 hJ.2.2 (fun a b w24 hW ha hb a0 a1 b0 b1 => ?_) FU 0 c0 0 _ (WSm.refl w _).set (Nat.zero_le _) (by rw [hc]; rfl) (by rw [i_0]; rfl) c01.1 (by omega) (by decide) (by decide) (Nat.lt_of_le_of_lt (show _ ≤ 300 by have := P.2.2.2.1; have := bd_136 hI (nb v N.toInt); omega) (fu_lt (by decide)))⟩
  by_cases k19 : d.1 = 23
  · have D0 := hD k19
    have D := D0.2
    have a1' : a.toInt = 1 := by
      rw [ha, D0.1, k19]
      show own 23 = 1
      decide
    have cs : cs1 acc d = (cap (1 + gC acc d.2.2.1.toNat), gD acc d.2.2.1.toNat) := by
      unfold cs1
      rw [if_pos k19]
    rw [cs] at hat
    refine ⟨fun z => absurd (by rw [hK]; exact wk.1.mpr k19) z, fun _ => ?_⟩
    have hG : FR lsm v w24 := hJ.2.1.tr hW.fr rfl
    have e := bb_ix (n := N) hI N0 (by omega)
    have en : (((300 : Int32) * ((1 : Int32) - (v.1 129 12))) + N).toInt.toNat = nb v N.toInt := by rw [e]; rfl
    have e12 : w24.1 129 12 = v.1 129 12 := (hG 129 12 rfl).1
    have e132 : ∀ j, w24.2.1 132 j = v.2.1 132 j := fun j => (hG 132 j rfl).2.1
    have e135 : ∀ j, w24.1 135 j = v.1 135 j := fun j => (hG 135 j rfl).1
    have e137 : ∀ j, w24.1 137 j = v.1 137 j := fun j => (hG 137 j rfl).1
    have e143 : ∀ j, w24.1 143 j = v.1 143 j := fun j => (hG 143 j rfl).1
    have n12 : ∀ x, (sI w24 145 N.toInt.toNat x).1 129 12 = w24.1 129 12 := fun x => rfl
    have n135 : ∀ x j, (sI w24 145 N.toInt.toNat x).1 135 j = w24.1 135 j := fun x j => rfl
    have n137 : ∀ x j, (sI w24 145 N.toInt.toNat x).1 137 j = w24.1 137 j := fun x j => rfl
    have i0 := cc_ix (n := Int64.toInt32 (v.2.1 132 (nb v N.toInt))) hI D.1.1 (by have := D.1.2; unfold numB at this; omega)
    have hnum : numB v N.toInt = (Int64.toInt32 (v.2.1 132 (nb v N.toInt))).toInt := rfl
    simp only [p_Tx_base.eq_1]
    simp only [n12, n135, n137, e12, e132, e135, e137, e143, en]
    generalize hIX : ((((40 : Int32) * ((1 : Int32) - (v.1 129 12))) + (Int64.toInt32 (v.2.1 132 (nb v N.toInt)))).toInt) = IX at *
    have hst : (v.1 143 IX.toNat).toInt = stB v (numB v N.toInt) := by rw [i0]; rfl
    have b143 := bd_143 hI IX.toNat
    generalize (v.1 143 IX.toNat) = st at *
    have iI : IX = 40 * bhf v + numB v N.toInt := by first | exact i0 | (rw [← hIX]; exact i0)
    have Dn := D.1
    have D1 := D.2.1
    have D2 := D.2.2.1
    have D4 := D.2.2.2.2
    have is := bb_ix (n := st) hI (by omega) (by omega)
    have isn : (((300 : Int32) * ((1 : Int32) - (v.1 129 12))) + st).toInt.toNat = nb v (stB v (numB v N.toInt)) := by rw [is, hst]; rfl
    simp only [isn]
    have b135 := bd_135 hI (nb v (stB v (numB v N.toInt)))
    have ik := bb_ix (n := v.1 135 (nb v (stB v (numB v N.toInt)))) hI b135.1 (by omega)
    have hkd : (v.1 137 ((((300 : Int32) * ((1 : Int32) - (v.1 129 12))) + (v.1 135 (nb v (stB v (numB v N.toInt))))).toInt.toNat)).toInt = d.2.2.1 := by
      rw [← D.2.2.2.1, ik]
      unfold kidB
      rw [Int.add_zero]
    simp only [hkd]
    have o1 : ∀ j : Nat, j ≠ N.toInt.toNat → w24.1 145 j = w.1 145 j ∧ w24.1 146 j = w.1 146 j := fun j hj => ⟨hW.1 145 j (fun q => hj q.2) (fun q => absurd q.1 (by decide)), hW.1 146 j (fun q => absurd q.1 (by decide)) (fun q => hj q.2)⟩
    have db := D.2.2.2.2
    have kz := o1 d.2.2.1.toNat (by omega)
    have gz := hJ.2.2 d.2.2.1.toNat (by omega)
    have cz := bd_145 hJ.1 d.2.2.1.toNat
    have cz6 := bd_146 hJ.1 d.2.2.1.toNat
    have sa := ti_add2 a1' (Eq.refl (w.1 145 d.2.2.1.toNat).toInt) (by omega) (by omega)
    have G : ∀ (d' : Int32) (w3 : MW), d' = (w.1 146 d.2.2.1.toNat) → WSm w N.toInt.toNat (a + (w.1 145 d.2.2.1.toNat)) d' w3 → q_Tx_isSmall_281 x1 N 0 d' N w3 A E Q := fun d' w3 hd h3 => xs_281 h3 N0 N3 (by omega) (fun a' w' hW' ha' => hA w' (by
      have cb := cap_b (a := (a + (w.1 145 d.2.2.1.toNat)).toInt) (by omega)
      have hd' : d'.toInt = (w.1 146 d.2.2.1.toNat).toInt := by rw [hd]
      have sd := ti_add2 (Eq.refl d'.toInt) i_0 (by omega) (by omega)
      refine xs_step hJ N0 N3 hW' ?_ ?_ (by omega) (by omega) (by rw [sd, hd]; omega) (by rw [sd, hd]; omega)
      · rw [ha', hat.1, sa, gz.1]
      · rw [hat.2, sd, hd, gz.2]
        show gD acc d.2.2.1.toNat + 0 = gD acc d.2.2.1.toNat
        omega))
    have R1 : ∀ x, (sI w24 145 N.toInt.toNat x).1 146 d.2.2.1.toNat = (w.1 146 d.2.2.1.toNat) := fun x => kz.2
    simp only [R1, sI_same, hW.2.2.1, kz.1]
    have WF := (hW.a (a' := a + (w.1 145 d.2.2.1.toNat))).b (b' := w.1 146 d.2.2.1.toNat)
    refine ⟨⟨by omega, by omega⟩, ⟨by omega, by omega⟩, ⟨N0, N3⟩, ⟨by omega, by omega⟩, ⟨by omega, by omega⟩, ⟨by omega, by omega⟩, ⟨N0, N3⟩, ⟨by omega, by omega⟩, ⟨by omega, by omega⟩, ⟨by omega, by omega⟩, ⟨N0, N3⟩, ⟨N0, N3⟩, fun _ => G _ _ rfl WF, fun z => ?_⟩
    have z' := wk.2.1.mp (by rw [← hK]; exact Classical.not_not.mp z)
    omega
  · have cs : cs1 acc d = (cap (smC acc (own d.1) d.2.2.2), mxD acc 0 d.2.2.2 + (if d.1 = 35 then 1 else 0)) := by
      unfold cs1
      rw [if_neg k19]
    rw [cs] at hat
    have F : ∀ (y dd : Int32), dd = b → y.toInt = (if d.1 = 35 then 1 else 0) → q_Tx_isSmall_281 x1 N y dd N w24 A E Q := fun y dd edd ey => xs_281 hW N0 N3 a0 (fun a' w' hW' ha' => hA w' (by
      have cb := cap_b a0
      have yb : 0 ≤ y.toInt ∧ y.toInt ≤ 1 := by
        rw [ey]
        by_cases q : d.1 = 35
        · rw [if_pos q]
          decide
        · rw [if_neg q]
          decide
      have sd := ti_add2 (Eq.refl b.toInt) (Eq.refl y.toInt) (by omega) (by omega)
      rw [edd] at hW'
      have e2 : gD acc N.toInt.toNat = b.toInt + y.toInt := by rw [hat.2, hb, ey]
      refine xs_step hJ N0 N3 hW' ?_ ?_ (by omega) (by omega) (by omega) (by omega)
      · rw [ha', hat.1, ha]
      · rw [sd, e2]))
    refine ⟨fun _ => ⟨⟨N0, N3⟩, fun z => F 0 _ hW.2.2.2 ?_, fun z => F 1 _ hW.2.2.2 ?_⟩, fun z => absurd (wk.1.mp (by rw [← hK]; exact Classical.not_not.mp z)) k19⟩
    · rw [if_neg (fun q => z (by rw [hK]; exact wk.2.1.mpr q))]
      decide
    · rw [if_pos (wk.2.1.mp (by rw [← hK]; exact Classical.not_not.mp z))]
      decide
