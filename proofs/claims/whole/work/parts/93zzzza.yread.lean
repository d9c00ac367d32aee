/-! the reference: isSmall and read, exactly -/
theorem mxD_b {acc : List (Int × Int)} {B : Int} : ∀ (l : List Nat) (a : Int), 0 ≤ a → a ≤ B → (∀ c ∈ l, gD acc c ≤ B) → 0 ≤ mxD acc a l ∧ mxD acc a l ≤ B := by
  intro l
  induction l with
  | nil => exact fun a a0 aB _ => ⟨a0, aB⟩
  | cons k l ih =>
    intro a a0 aB h
    rw [mxD_c]
    have hk := h k List.mem_cons_self
    by_cases c : gD acc k ≤ a
    · rw [if_pos c]
      exact ih a a0 aB (fun c hc => h c (List.mem_cons_of_mem _ hc))
    · rw [if_neg c]
      exact ih _ (by omega) hk (fun c hc => h c (List.mem_cons_of_mem _ hc))
theorem gD_b {lk : List Int → Int × Int × Int × Int} {ns : List Nod} (h : NWf lk ns) : ∀ N : Nat, N < ns.length → 0 ≤ gD (csl ns []) N ∧ gD (csl ns []) N ≤ (N : Int) + 1 := by
  intro N
  induction N using Nat.strongRecOn with
  | ind N ih =>
    intro hN
    obtain ⟨d, hd⟩ : ∃ d, ns[N]? = some d := ⟨_, List.getElem?_eq_getElem hN⟩
    have w := h N d hd
    have db : d.1 = 23 → d.2.2.1.toNat < N := fun q => by
      have := (w.2 q).2.2
      omega
    rw [(cs_at hd w.1 db).2]
    unfold cs1
    by_cases q : d.1 = 23
    · rw [if_pos q]
      have t := ih _ (db q) (by have := db q; omega)
      have b := (w.2 q).2.2
      show 0 ≤ gD (csl ns []) d.2.2.1.toNat ∧ gD (csl ns []) d.2.2.1.toNat ≤ (N : Int) + 1
      omega
    · rw [if_neg q]
      show 0 ≤ mxD (csl ns []) 0 d.2.2.2 + _ ∧ mxD (csl ns []) 0 d.2.2.2 + _ ≤ (N : Int) + 1
      have t := mxD_b (acc := csl ns []) (B := (N : Int)) d.2.2.2 0 (Int.le_refl _) (by omega) (fun c hc => by
        have lc := w.1 c hc
        have := (ih c lc (by omega)).2
        omega)
      by_cases e : d.1 = 35
      · rw [if_pos e]
        omega
      · rw [if_neg e]
        omega
/-- the steps that are told, in the nodes -/
def WNm (ns : List Nod) (nm : List Nm) : Prop := ∀ (i : Nat) (x : Nm), nm[i]? = some x → 0 ≤ x.2.2.2 → ns[(x.2.2.2 + 1).toNat]? = some (10, 0, 0, [x.2.2.2.toNat])
theorem lkn_x {nm : List Nm} {l : List Int} {j u b : Int} (h : lkn nm l = (j, 10, u, b)) (j0 : 0 ≤ j) : ∃ (i : Nat) (x : Nm), nm[i]? = some x ∧ j = (i : Int) ∧ x.2.1 = 10 ∧ x.2.2.2 = b ∧ 0 ≤ b := by
  unfold lkn at h
  by_cases c : (lki l nm 0).2.1 = 10 ∧ (lki l nm 0).2.2.2 < 0
  · rw [if_pos c] at h
    have t : (-1 : Int) = j := congrArg Prod.fst h
    omega
  · rw [if_neg c] at h
    rcases lki_b l nm 0 with ⟨a, b', _⟩ | ⟨i, x, a, b', d⟩
    · rw [h] at a
      have t : j = -1 := a
      omega
    · rw [d] at h c
      have t1 : 0 + (i : Int) = j := congrArg Prod.fst h
      have t2 : x.2.1 = 10 := congrArg (fun r : Int × Int × Int × Int => r.2.1) h
      have t3 : x.2.2.2 = b := congrArg (fun r : Int × Int × Int × Int => r.2.2.2) h
      have c' : ¬ (x.2.1 = 10 ∧ x.2.2.2 < 0) := c
      exact ⟨i, x, a, by omega, t2, t3, by
        by_cases q : b < 0
        · exact absurd ⟨t2, by omega⟩ c'
        · omega⟩
theorem y_dof {v : MW} {ns : List Nod} {nm : List Nm} {N : Nat} {d : Nod} (hI : BND v) (PN : PNm v ns) (NN : NmM v nm) (W : WNm ns nm) (hW : NWf (lkn nm) ns) (hd : ns[N]? = some d) (q : d.1 = 23) : DOf v (N : Int) d := by
  have t := (hW N d hd).2 q
  obtain ⟨l, u, el, e0⟩ := t.2.1
  have b := t.2.2
  obtain ⟨i, x, hx, ei, x10, xb, _⟩ := lkn_x el e0
  have il := (List.getElem?_eq_some_iff.mp hx).1
  have n4 := NN.2.1
  have P := PN.2 N d hd
  have num := P.2.2.1 (by omega) (by omega)
  have nl : N < ns.length := (List.getElem?_eq_some_iff.mp hd).1
  have b13 := bd_129_13 hI
  have e13 := PN.1
  have en : numB v (N : Int) = d.2.1 := by
    unfold numB
    rw [nb_l2i (by rw [num]; omega) (by rw [num]; omega)]
    exact num
  have st : stB v d.2.1 = d.2.2.1 + 1 := by
    have g := (NN.2.2 i x hx).2.2.2.2.2.1
    unfold stB
    rw [ei, g, xb, if_neg (by omega)]
  have hs := W i x hx (by omega)
  rw [xb] at hs
  have S := PN.2 _ _ hs
  have s1 : (((d.2.2.1 + 1).toNat : Nat) : Int) = d.2.2.1 + 1 := by omega
  rw [s1] at S
  have b21 := bd_129_21 hI
  have kid := S.2.2.2.2.2 0 d.2.2.1.toNat rfl
  have cn : (v.1 135 (nb v (d.2.2.1 + 1))).toInt + 1 ≤ (v.1 129 21).toInt := S.2.2.2.2.1
  refine ⟨by rw [en]; omega, by rw [en, st]; omega, by rw [en, st]; omega, ?_, b.1, by omega⟩
  rw [en, st]
  unfold kidB
  rw [show (300 * bhf v + (v.1 135 (nb v (d.2.2.1 + 1))).toInt + 0).toNat = nb v ((v.1 135 (nb v (d.2.2.1 + 1))).toInt + ((0 : Nat) : Int)) by unfold nb; omega, kid]
  omega
theorem xs_4 {v : MW} {ns : List Nod} {nm : List Nm} {x1 : Int32} {E : MW → Prop} {Q : Int32 → MW → Prop} (hI : BND v) (PN : PNm v ns) (NN : NmM v nm) (W : WNm ns nm) (hW : NWf (lkn nm) ns) (hE : ∀ w', XSm v (csl ns []) (ns.length : Int) w' → E w') (m : Nat) : ∀ (x : Nat) (w : MW), XSm v (csl ns []) (x : Int) w → x ≤ ns.length → ns.length - x < m → q_Tx_isSmall_4 x1 E Q m (nI x) w := by
  induction m with
  | zero => intros; omega
  | succ m ih =>
    intro x w hJ x9 hm
    have b13 := bd_129_13 hI
    have e13 := PN.1
    have bh := bhf_b hI
    have tx : (nI x).toInt = (x : Int) := nI_toInt (by omega)
    have f12 : w.1 129 12 = v.1 129 12 := (hJ.2.1 129 12 rfl).1
    have f13 : w.1 129 13 = v.1 129 13 := (hJ.2.1 129 13 rfl).1
    have f131 : ∀ j, w.1 131 j = v.1 131 j := fun j => (hJ.2.1 131 j rfl).1
    rw [q_Tx_isSmall_4.eq_2, f13, e13, tx]
    refine ⟨fun c => hE w ?_, fun c => Eq.mpr (p_Tx_base.eq_1 _ _) ?_⟩
    · rw [show (ns.length : Int) = (x : Int) by omega]
      exact hJ
    · have xl : x < ns.length := by omega
      obtain ⟨d, hd⟩ : ∃ d, ns[x]? = some d := ⟨_, List.getElem?_eq_getElem xl⟩
      have P := PN.2 x d hd
      have wf := hW x d hd
      have e := bb_ix (n := nI x) hI (by omega) (by omega)
      have en : (((300 : Int32) * ((1 : Int32) - (v.1 129 12))) + (nI x)).toInt.toNat = nb v (x : Int) := by rw [e, tx]; rfl
      have xt : (nI x).toInt.toNat = x := by omega
      have db : d.1 = 23 → d.2.2.1.toNat < x := fun q => by
        have := (wf.2 q).2.2
        omega
      have ow := own_w d.1
      have b21 := bd_129_21 hI
      have K : ∀ c0 : Int32, c0.toInt = own d.1 → q_Tx_isSmall_46 x1 (nI x) (v.1 131 (nb v (x : Int))) c0 (nI x) w (fun (x4_2 : Int32) (w : MW) => q_Tx_isSmall_4 x1 E Q m x4_2 w) E Q := fun c0 ec => by
        refine xs_46 (acc := csl ns []) (d := d) hI (by rw [tx]; exact hJ) (by omega) (by omega) (by rw [tx]; exact P) b21.2 (fun c hc => by have := wf.1 c hc; omega) (fun q => ⟨(wf.2 q).1, by rw [tx]; exact y_dof hI PN NN W hW hd q⟩) (by rw [xt]; exact cs_at hd wf.1 db) (fun c hc => (gD_b hW c (by omega)).2) (by rw [xt, tx]; exact (gD_b hW x xl).2) P.1 ec (fun w' h' => ?_)
        rw [nI_1]
        rw [tx] at h'
        exact ih (x + 1) w' h' xl (by omega)
      rw [f12, f131, en]
      refine ⟨⟨by omega, by omega⟩, fun lt => K 0 ?_, fun ge => ⟨fun gt => K 0 ?_, fun le => K 1 ?_⟩⟩
      · rw [P.1] at lt
        rw [ow, if_pos lt]
        decide
      · rw [P.1] at ge gt
        rw [ow, if_neg ge, if_pos gt]
        decide
      · rw [P.1] at ge le
        rw [ow, if_neg ge, if_neg le]
        decide
theorem smC_a (acc : List (Int × Int)) : ∀ (l m : List Nat) (a : Int), smC acc a (l ++ m) = smC acc (smC acc a l) m := by
  intro l
  induction l with
  | nil => exact fun _ _ => rfl
  | cons k l ih => exact fun m a => ih m (a + gC acc k)
theorem smC_le {acc : List (Int × Int)} : ∀ (l : List Nat) (a : Int), (∀ c ∈ l, 0 ≤ gC acc c) → a ≤ smC acc a l := by
  intro l
  induction l with
  | nil => exact fun a _ => Int.le_refl a
  | cons k l ih =>
    intro a h
    rw [smC_c]
    have := ih (a + gC acc k) (fun c hc => h c (List.mem_cons_of_mem _ hc))
    have := h k List.mem_cons_self
    omega
/-- what stands outside, summed -/
theorem xs_321 {v w : MW} {ns : List Nod} {ts ks : List Nat} {E : Int32 → MW → Prop} {Q : Int32 → MW → Prop} (hI : BND v) (PN : (v.1 129 13).toInt = (ns.length : Int)) (hT : TpM v (ts ++ ks)) (hs : ∀ t ∈ ts, t < ns.length ∧ (v.1 131 (nb v (t : Int))).toInt = 24) (hk : ∀ t ∈ ks, t < ns.length ∧ (v.1 131 (nb v (t : Int))).toInt ≤ 23) (hJ : XSm v (csl ns []) (ns.length : Int) w) (hE : ∀ s : Int32, 0 ≤ s.toInt → (500 < s.toInt ↔ tooM ns ks) → E s w) (m : Nat) : ∀ (j : Nat) (s : Int32), j ≤ (ts ++ ks).length → 0 ≤ s.toInt → s.toInt ≤ 1001 → (500 < s.toInt → tooM ns ks) → (s.toInt ≤ 500 → s.toInt = smC (csl ns []) 0 (ks.take (j - ts.length)) ∧ ∀ c ∈ ks.take (j - ts.length), gD (csl ns []) c ≤ 40) → (ts ++ ks).length - j < m → q_Tx_isSmall_321 E Q m s (nI j) w := by
  induction m with
  | zero => intros; omega
  | succ m ih =>
    intro j s hj s0 s1 hm1 hm2 hm
    have b13 := bd_129_13 hI
    have b23 := bd_129_23 hI
    have bh := bhf_b hI
    have t1 := hT.1
    have tj : (nI j).toInt = (j : Int) := nI_toInt (by omega)
    have f12 : w.1 129 12 = v.1 129 12 := (hJ.2.1 129 12 rfl).1
    have f23 : w.1 129 23 = v.1 129 23 := (hJ.2.1 129 23 rfl).1
    have f131 : ∀ j, w.1 131 j = v.1 131 j := fun j => (hJ.2.1 131 j rfl).1
    have f138 : ∀ j, w.1 138 j = v.1 138 j := fun j => (hJ.2.1 138 j rfl).1
    have ll : (ts ++ ks).length = ts.length + ks.length := List.length_append
    have gp : ∀ c : Nat, c < ns.length → 0 ≤ gC (csl ns []) c ∧ gC (csl ns []) c ≤ 501 := fun c hc => by
      have b := bd_145 hJ.1 c
      rw [(hJ.2.2 c (by omega)).1] at b
      exact b
    rw [q_Tx_isSmall_321.eq_2, f23, t1, tj]
    refine ⟨fun c => hE s s0 ⟨hm1, fun tm => ?_⟩, fun c => ⟨fun big => hE s s0 ⟨hm1, fun _ => big⟩, fun small => Eq.mpr (p_Tx_base.eq_1 _ _) ?_⟩⟩
    · by_cases le : s.toInt ≤ 500
      · have h2 := hm2 le
        have ea : ks.take (j - ts.length) = ks := List.take_of_length_le (by omega)
        rw [ea] at h2
        rcases tm with tm | ⟨k, hk', tm⟩
        · omega
        · have := h2.2 k hk'
          omega
      · omega
    · have h2 := hm2 (by omega)
      have jl : j < (ts ++ ks).length := by omega
      have e := bb_ix (n := nI j) hI (by omega) (by omega)
      have g := hT.2 j _ (List.getElem?_eq_getElem jl)
      have et : (v.1 138 (((300 : Int32) * ((1 : Int32) - (v.1 129 12))) + (nI j)).toInt.toNat).toInt = ((ts ++ ks)[j] : Int) := by
        rw [← g, e, tj]
        rfl
      have tn : (nI j) + (1 : Int32) = nI (j + 1) := nI_1 j
      rw [f12, f138]
      generalize (v.1 138 (((300 : Int32) * ((1 : Int32) - (v.1 129 12))) + (nI j)).toInt.toNat) = tp at *
      by_cases c2 : j < ts.length
      · have ej : (ts ++ ks)[j] = ts[j] := List.getElem_append_left c2
        have q := hs _ (List.getElem_mem c2)
        rw [ej] at et
        have e2 := bb_ix (n := tp) hI (by omega) (by omega)
        have en : (((300 : Int32) * ((1 : Int32) - (v.1 129 12))) + tp).toInt.toNat = nb v ((ts[j] : Nat) : Int) := by rw [e2, et]; rfl
        refine ⟨⟨by omega, by omega⟩, Eq.mpr (p_Tx_base.eq_1 _ _) ?_⟩
        rw [f12, f131, en, q.2, tn]
        have ss := ti_add2 (Eq.refl s.toInt) i_0 (by omega) (by omega)
        refine ⟨⟨by omega, by omega⟩, fun z => absurd rfl z, fun _ => ih (j + 1) _ (by omega) (by omega) (by omega) (fun z => by omega) (fun z => ?_) (by omega)⟩
        rw [ss, Int.add_zero, show j + 1 - ts.length = j - ts.length by omega]
        exact h2
      · have kl : j - ts.length < ks.length := by omega
        have ej : (ts ++ ks)[j] = ks[j - ts.length] := List.getElem_append_right (by omega)
        have q := hk _ (List.getElem_mem kl)
        rw [ej] at et
        have e2 := bb_ix (n := tp) hI (by omega) (by omega)
        have en : (((300 : Int32) * ((1 : Int32) - (v.1 129 12))) + tp).toInt.toNat = nb v ((ks[j - ts.length] : Nat) : Int) := by rw [e2, et]; rfl
        have tt : tp.toInt.toNat = ks[j - ts.length] := by omega
        have gj := hJ.2.2 ks[j - ts.length] (by omega)
        have gb := gp ks[j - ts.length] q.1
        have tk : ks.take (j + 1 - ts.length) = ks.take (j - ts.length) ++ [ks[j - ts.length]] := by
          rw [show j + 1 - ts.length = (j - ts.length) + 1 by omega, List.take_succ, List.getElem?_eq_getElem kl]
          rfl
        have mem : ks[j - ts.length] ∈ ks := List.getElem_mem kl
        refine ⟨⟨by omega, by omega⟩, Eq.mpr (p_Tx_base.eq_1 _ _) ?_⟩
        rw [f12, f131, en, tt, tn]
        have w23 := q.2
        have sm : smC (csl ns []) 0 (ks.take (j + 1 - ts.length)) = s.toInt + gC (csl ns []) ks[j - ts.length] := by
          rw [tk, smC_a, ← h2.1]
          rfl
        refine ⟨⟨by omega, by omega⟩, fun z => ⟨⟨by omega, by omega⟩, fun d40 => ⟨⟨by omega, by omega⟩, ?_⟩, fun d41 => ?_⟩, fun z => by have := Classical.not_not.mp z; omega⟩
        · have ss := ti_add2 (Eq.refl s.toInt) gj.1 (by omega) (by omega)
          refine ih (j + 1) _ (by omega) (by omega) (by omega) (fun z => Or.inl ?_) (fun z => ⟨by rw [ss, sm], fun c hc => ?_⟩) (by omega)
          · have e3 : ks = ks.take (j + 1 - ts.length) ++ ks.drop (j + 1 - ts.length) := (List.take_append_drop _ _).symm
            have le := smC_le (acc := csl ns []) (ks.drop (j + 1 - ts.length)) (smC (csl ns []) 0 (ks.take (j + 1 - ts.length))) (fun c hc => (gp c (hk c (List.mem_of_mem_drop hc)).1).1)
            rw [e3, smC_a]
            omega
          · rw [tk] at hc
            rcases List.mem_append.mp hc with p | p
            · exact h2.2 c p
            · rw [List.mem_singleton.mp p, ← gj.2]
              exact d40
        · have ss := ti_add2 (Eq.refl s.toInt) (show (501 : Int32).toInt = 501 by decide) (by omega) (by omega)
          have tm : tooM ns ks := Or.inr ⟨_, mem, by rw [← gj.2]; omega⟩
          exact ih (j + 1) _ (by omega) (by omega) (by omega) (fun _ => tm) (fun z => by omega) (by omega)
/-- THE REFERENCE'S isSmall exactly -/
theorem y_small {v : MW} {f : Int → Int} {n : Int} {nm : List Nm} {z : ZS} {ts : List Nat} {Q : Int32 → MW → Prop} (h : YE v f n nm z ts) (W : WNm z.2.1 nm) (hW : NWf (lkn nm) z.2.1) (hb : tooM z.2.1 z.2.2.2.1 → ∀ w', (w'.1 129 10).toInt = n → Q 0 w') (hg : ¬ tooM z.2.1 z.2.2.2.1 → ∀ w', BND w' → FR lsm2 v w' → Q 1 w') : p_Tx_isSmall v Q := by
  have hI := h.1.1.1.1
  have fu : (1000 : Nat) < FU := fu_lt (by decide)
  have l3 := ys_len h.1
  have tl := h.2.2.2.2.1.1
  have b23 := bd_129_23 hI
  have S0 : XSm v (csl z.2.1 []) ((0 : Nat) : Int) v := ⟨hI, FR.refl _ v, fun c hc => by omega⟩
  refine Eq.mpr (p_Tx_isSmall.eq_1 _ _) (xs_4 hI h.1.2.2.2.1 h.1.1.2.2.1 W hW (fun w hJ => ?_) FU 0 v S0 (Nat.zero_le _) (by omega))
  have e1 : (w.1 129 1).toInt = n := by rw [(hJ.2.1 129 1 rfl).1]; exact h.1.1.2.1.1
  refine xs_321 hI h.1.2.2.2.1.1 h.2.2.2.2.1 h.2.2.2.2.2.1 h.2.2.2.2.2.2 hJ (fun s s0 hs => ⟨fun c => ⟨fun c2 => by omega, fun _ => hg (fun t => by have := hs.mpr t; omega) _ (wbd_129_10 hJ.1) (FR.I ((FR.refl lsm2 v).tr hJ.2.1 rfl) rfl)⟩, fun c => ⟨fun c2 => hb (hs.mp c2) _ (by rw [sI_same]; exact e1), fun c2 => by omega⟩⟩) FU 0 0 (Nat.zero_le _) (by decide) (by decide) (fun z => absurd z (by decide)) (fun _ => ⟨?_, fun c hc => ?_⟩) (by omega)
  · rw [show 0 - ts.length = 0 by omega, List.take_zero]
    show (0 : Int32).toInt = 0
    decide
  · rw [show 0 - ts.length = 0 by omega, List.take_zero] at hc
    cases hc
