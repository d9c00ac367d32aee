/-! names of the program that stands, on both sides: sense, signal, start -/
/-- the class: names and their kinds, and whether there are statements outside -/
def ClN (u : MW) (nm : List Nm) (ks : List Nat) : Prop := (u.1 62 10).toInt = (nm.length : Int) ∧ nm.length ≤ 40 ∧ (∀ (i : Nat) (x : Nm), nm[i]? = some x → (u.1 71 i).toInt = x.2.1) ∧ ((u.1 62 2).toInt < 0 ↔ ks = [])
theorem cln_fr {l : Pl} {w w' : MW} {nm : List Nm} {ks : List Nat} (h : ClN w nm ks) (hF : FR l w w') (ho : off l [(62, some 2), (62, some 10), (71, none)] = true) : ClN w' nm ks :=
  ⟨by rw [(hF 62 10 (off_hit ho rfl)).1]; exact h.1, h.2.1, fun i x hx => by rw [(hF 71 i (off_hit ho rfl)).1]; exact h.2.2.1 i x hx, by rw [(hF 62 2 (off_hit ho rfl)).1]; exact h.2.2.2⟩
theorem rlm_fr {l : Pl} {w w' : MW} {nm : List Nm} (h : RlM w nm) (hF : FR l w w') (ho : off l [(129, some 12), (129, some 31), (129, some 32), (131, none), (138, none), (141, none)] = true) : RlM w' nm :=
  ⟨by rw [(hF 129 32 (off_hit ho rfl)).1]; exact h.1, h.2.1, fun i x hx => by rw [(hF 129 12 (off_hit ho rfl)).1, (hF 141 _ (off_hit ho rfl)).1]; exact h.2.2 i x hx⟩
theorem tpw_fr {l : Pl} {w w' : MW} {ts ks : List Nat} (h : TpW w ts ks) (hF : FR l w w') (ho : off l [(129, some 12), (129, some 31), (129, some 32), (131, none), (138, none), (141, none)] = true) : TpW w' ts ks := by
  have e := (hF 129 12 (off_hit ho rfl)).1
  refine ⟨by rw [(hF 129 31 (off_hit ho rfl)).1]; exact h.1, fun k c hk => ?_, fun t ht => ?_, fun t ht => ?_⟩
  · rw [e, (hF 138 _ (off_hit ho rfl)).1]
    exact h.2.1 k c hk
  · rw [e, (hF 131 _ (off_hit ho rfl)).1]
    exact h.2.2.1 t ht
  · rw [e, (hF 131 _ (off_hit ho rfl)).1]
    exact h.2.2.2 t ht
/-- a read that fails leaves them -/
def HFj (w w' : MW) : Prop := w'.1 129 12 = w.1 129 12 ∧ w'.1 129 31 = w.1 129 31 ∧ w'.1 129 32 = w.1 129 32 ∧ (∀ j : Nat, 300 * (w.1 129 12).toInt ≤ (j : Int) → (j : Int) < 300 * (w.1 129 12).toInt + 300 → w'.1 131 j = w.1 131 j) ∧ (∀ j : Nat, 300 * (w.1 129 12).toInt ≤ (j : Int) → (j : Int) < 300 * (w.1 129 12).toInt + 300 → w'.1 138 j = w.1 138 j) ∧ ∀ j : Nat, 40 * (w.1 129 12).toInt ≤ (j : Int) → (j : Int) < 40 * (w.1 129 12).toInt + 40 → w'.1 141 j = w.1 141 j
theorem hfj_of {w w' : MW} (k : HFk w w') : HFj w w' := ⟨k.1, k.2.1, k.2.2.1, fun j a b => (k.2.2.2.1 j a b).1, k.2.2.2.2.1.1, k.2.2.2.2.2⟩
theorem hfj_l {l : Pl} {w w1 w' : MW} (F : FR l w w1) (ho : off l [(129, some 12), (129, some 31), (129, some 32), (131, none), (138, none), (141, none)] = true) (k : HFj w1 w') : HFj w w' := by
  have e := (F 129 12 (off_hit ho rfl)).1
  refine ⟨k.1.trans e, k.2.1.trans (F 129 31 (off_hit ho rfl)).1, k.2.2.1.trans (F 129 32 (off_hit ho rfl)).1, fun j a b => ?_, fun j a b => ?_, fun j a b => ?_⟩
  · exact (k.2.2.2.1 j (by rw [e]; exact a) (by rw [e]; exact b)).trans (F 131 j (off_hit ho rfl)).1
  · exact (k.2.2.2.2.1 j (by rw [e]; exact a) (by rw [e]; exact b)).trans (F 138 j (off_hit ho rfl)).1
  · exact (k.2.2.2.2.2 j (by rw [e]; exact a) (by rw [e]; exact b)).trans (F 141 j (off_hit ho rfl)).1
theorem rlm_hf {w w' : MW} {nm : List Nm} (hI : BND w) (h : RlM w nm) (k : HFj w w') : RlM w' nm := by
  have b := bd_129_12 hI
  refine ⟨by rw [k.2.2.1]; exact h.1, h.2.1, fun i x hx => ?_⟩
  have il := (List.getElem?_eq_some_iff.mp hx).1
  have l4 := h.2.1
  rw [k.1, k.2.2.2.2.2 _ (by omega) (by omega)]
  exact h.2.2 i x hx
theorem tpw_hf {w w' : MW} {ts ks : List Nat} (hI : BND w) (h : TpW w ts ks) (k : HFj w w') : TpW w' ts ks := by
  have b := bd_129_12 hI
  have b31 := bd_129_31 hI
  have e31 := h.1
  refine ⟨by rw [k.2.1]; exact h.1, fun j c hj => ?_, fun t ht => ?_, fun t ht => ?_⟩
  · have il := (List.getElem?_eq_some_iff.mp hj).1
    rw [k.1, k.2.2.2.2.1 _ (by omega) (by omega)]
    exact h.2.1 j c hj
  · have q := h.2.2.1 t ht
    rw [k.1, k.2.2.2.1 _ (by omega) (by omega)]
    exact q
  · have q := h.2.2.2 t ht
    rw [k.1, k.2.2.2.1 _ (by omega) (by omega)]
    exact q
/-- a is the number of a signal -/
def SgN (nm : List Nm) (a : Int) : Prop := ∃ (i : Nat) (x : Nm), a = (i : Int) ∧ nm[i]? = some x ∧ x.2.1 = 8
theorem cn_isS {w : MW} {nm : List Nm} {ks : List Nat} {a : Int32} {Q : Int32 → MW → Prop} (h : ClN w nm ks) (h1 : SgN nm a.toInt → 0 ≤ a.toInt → a.toInt < 40 → Q 1 w) (h0 : ¬ SgN nm a.toInt → Q 0 w) : p_Pr_isSignal w a Q := by
  have l4 := h.2.1
  have e := h.1
  refine Eq.mpr (p_Pr_isSignal.eq_1 _ _ _) ⟨fun c => h0 (fun ⟨i, x, ei, _⟩ => by omega), fun c => ⟨fun c2 => h0 (fun ⟨i, x, ei, hx, _⟩ => by have := (List.getElem?_eq_some_iff.mp hx).1; omega), fun c2 => ?_⟩⟩
  have il : a.toInt.toNat < nm.length := by omega
  obtain ⟨x, hx⟩ : ∃ x, nm[a.toInt.toNat]? = some x := ⟨_, List.getElem?_eq_getElem il⟩
  have ek := h.2.2.1 _ x hx
  refine ⟨⟨by omega, by omega⟩, fun c3 => h0 (fun ⟨i, x', ei, hx', e8⟩ => c3 ?_), fun c3 => h1 ⟨a.toInt.toNat, x, by omega, hx, ?_⟩ (by omega) (by omega)⟩
  · rw [show a.toInt.toNat = i by omega, h.2.2.1 i x' hx']
    exact e8
  · rw [← ek]
    exact Classical.not_not.mp c3
theorem mn_isS {w : MW} {nm : List Nm} {a : Int32} {Q : Int32 → MW → Prop} (hI : BND w) (h : RlM w nm) (h1 : SgN nm a.toInt → 0 ≤ a.toInt → a.toInt < 40 → Q 1 w) (h0 : ¬ SgN nm a.toInt → Q 0 w) : p_Mo_isRole w a 30 Q := by
  have l4 := h.2.1
  have e := h.1
  have b := bd_129_12 hI
  refine Eq.mpr (p_Mo_isRole.eq_1 _ _ _ _) ⟨fun c => h0 (fun ⟨i, x, ei, _⟩ => by omega), fun c => ⟨fun c2 => h0 (fun ⟨i, x, ei, hx, _⟩ => by have := (List.getElem?_eq_some_iff.mp hx).1; omega), fun c2 => ?_⟩⟩
  have il : a.toInt.toNat < nm.length := by omega
  obtain ⟨x, hx⟩ : ∃ x, nm[a.toInt.toNat]? = some x := ⟨_, List.getElem?_eq_getElem il⟩
  have ix := dd_ix (n := a) hI (by omega) (by omega)
  have en : (((40 : Int32) * (w.1 129 12)) + a).toInt.toNat = (40 * (w.1 129 12).toInt + (a.toInt.toNat : Int)).toNat := by rw [ix]; omega
  have ek := h.2.2 _ x hx
  have i30 : (30 : Int32).toInt = 30 := by decide
  have m8 : mrl x.2.1 = 30 ↔ x.2.1 = 8 := by
    unfold mrl
    rcases ek.2 with q | q | q <;> rw [q] <;> decide
  rw [en, i30, ek.1]
  refine ⟨⟨by omega, by omega⟩, fun c3 => h0 (fun ⟨i, x', ei, hx', e8⟩ => c3 ?_), fun c3 => h1 ⟨a.toInt.toNat, x, by omega, hx, m8.mp (Classical.not_not.mp c3)⟩ (by omega) (by omega)⟩
  have ex : x' = x := by
    rw [show i = a.toInt.toNat by omega, hx] at hx'
    exact (Option.some.inj hx').symm
  rw [← ex]
  rw [ex]
  exact m8.mpr (by rw [← ex]; exact e8)
/-- the answers -/
theorem cn_sense {w : MW} {nm : List Nm} {ks : List Nat} {a b c : Int32} {Q : Int32 → MW → Prop} (h3 : w.2.2 61 3 = some 62) (h : ClN w nm ks) (hQ : ∀ (y : Int32) (w' : MW), ((SgN nm a.toInt ∧ 0 ≤ b.toInt ∧ b.toInt ≤ 5) ∧ y = 1) ∨ (¬ (SgN nm a.toInt ∧ 0 ≤ b.toInt ∧ b.toInt ≤ 5) ∧ y = 0) → Q y w') : p_Bh_sense w a b c Q := by
  refine Eq.mpr (p_Bh_sense.eq_1 _ _ _ _ _) ⟨h3, cn_isS h (fun s a0 a1 => ⟨fun z => absurd z (by decide), fun _ => ⟨fun c1 => hQ _ _ (Or.inr ⟨fun z => by have := z.2.1; omega, rfl⟩), fun c1 => ⟨fun c2 => ⟨h3, ⟨a0, a1⟩, h3, ⟨a0, a1⟩, hQ _ _ (Or.inl ⟨⟨s, by omega, c2⟩, rfl⟩)⟩, fun c2 => hQ _ _ (Or.inr ⟨fun z => c2 z.2.2, rfl⟩)⟩⟩⟩) (fun s => ⟨fun _ => hQ _ _ (Or.inr ⟨fun z => s z.1, rfl⟩), fun z => absurd i_0 z⟩)⟩
theorem mn_sense {w : MW} {nm : List Nm} {a b c : Int32} {Q : Int32 → MW → Prop} (hI : BND w) (h : RlM w nm) (hQ : ∀ (y : Int32) (w' : MW), ((SgN nm a.toInt ∧ 0 ≤ b.toInt ∧ b.toInt ≤ 5) ∧ y = 1) ∨ (¬ (SgN nm a.toInt ∧ 0 ≤ b.toInt ∧ b.toInt ≤ 5) ∧ y = 0) → Q y w') : p_Mo_sense w a b c Q := by
  refine Eq.mpr (p_Mo_sense.eq_1 _ _ _ _ _) (mn_isS hI h (fun s a0 a1 => ⟨fun z => absurd z (by decide), fun _ => ⟨fun c1 => hQ _ _ (Or.inr ⟨fun z => by have := z.2.1; omega, rfl⟩), fun c1 => ⟨fun c2 => ⟨⟨a0, a1⟩, ⟨a0, a1⟩, hQ _ _ (Or.inl ⟨⟨s, by omega, c2⟩, rfl⟩)⟩, fun c2 => hQ _ _ (Or.inr ⟨fun z => c2 z.2.2, rfl⟩)⟩⟩⟩) (fun s => ⟨fun _ => hQ _ _ (Or.inr ⟨fun z => s z.1, rfl⟩), fun z => absurd i_0 z⟩))
theorem cn_signal {w : MW} {nm : List Nm} {ks : List Nat} {a : Int32} {b : Int64} {Q : Int32 → MW → Prop} (h3 : w.2.2 61 3 = some 62) (h : ClN w nm ks) (hQ : ∀ (y : Int32) (w' : MW), (SgN nm a.toInt ∧ y = 1) ∨ (¬ SgN nm a.toInt ∧ y = 0) → Q y w') : p_Bh_signal w a b Q :=
  Eq.mpr (p_Bh_signal.eq_1 _ _ _ _) ⟨h3, cn_isS h (fun s a0 a1 => ⟨fun _ => ⟨h3, ⟨a0, a1⟩, hQ _ _ (Or.inl ⟨s, rfl⟩)⟩, fun z => absurd i1n z⟩) (fun s => ⟨fun z => absurd i_0 z, fun _ => hQ _ _ (Or.inr ⟨s, rfl⟩)⟩)⟩
theorem mn_signal {w : MW} {nm : List Nm} {a : Int32} {b : Int64} {Q : Int32 → MW → Prop} (hI : BND w) (h : RlM w nm) (hQ : ∀ (y : Int32) (w' : MW), (SgN nm a.toInt ∧ y = 1) ∨ (¬ SgN nm a.toInt ∧ y = 0) → Q y w') : p_Mo_signal w a b Q :=
  Eq.mpr (p_Mo_signal.eq_1 _ _ _ _) (mn_isS hI h (fun s a0 a1 => ⟨fun _ => ⟨⟨a0, a1⟩, hQ _ _ (Or.inl ⟨s, rfl⟩)⟩, fun z => absurd i1n z⟩) (fun s => ⟨fun z => absurd i_0 z, fun _ => hQ _ _ (Or.inr ⟨s, rfl⟩)⟩))
/-- start -/
theorem cn_start {w : MW} {nm : List Nm} {ks : List Nat} {Q : Int32 → MW → Prop} (h : CI w) (hN : ClN w nm ks) (h1 : ¬ ks = [] → ∀ w', Q 1 w') (h0 : ks = [] → ∀ w', Q 0 w') : p_Bh_start w Q := by
  have r3 := h.2.1.2.2.2.2.2.2.2.1
  have op := hN.2.2.2
  by_cases k : ks = []
  · have := op.mpr k
    exact Eq.mpr (p_Bh_start.eq_1 _ _) ⟨r3, fun c => absurd c (by omega), fun _ => h0 k w⟩
  · have o0 : ¬ (w.1 62 2).toInt < 0 := fun z => k (op.mp z)
    have q : RLz w ∧ RnI w := h.2.2.2.1.resolve_right (fun f => o0 f.1)
    have hC : CrI w := ⟨h.1, ⟨q.1, h.2.1⟩, h.2.2.1, q.2⟩
    have go : ∀ w3, BND w3 → CrS w3 → WO w3 → ((w3.2.2 61 3 = some 62) ∧ (p_Pr_clearValues (sI w3 3 0 0)  (fun w6 => (p_Ru_begin w6  (fun w7 => (Q 1 w7)))))) := fun w3 hB hS hW => by
      refine ⟨hS.2.2.2.2.2.2.2.2.1, ?_⟩
      have B4 : BND (sI w3 3 0 0) := wbd_3_0 hB (by decide) (by decide)
      have S4 : CrS (sI w3 3 0 0) := hS.fr (l := [(3, some 0)]) (FR.I (FR.refl _ w3) rfl) rfl
      have W4 : WO (sI w3 3 0 0) := WO_fr (l := [(3, some 0)]) (FR.I (FR.refl _ w3) rfl) rfl hW
      generalize (sI w3 3 0 0) = w4 at *
      exact h_Pr_clearValues B4 (fun w6 hB6 hF6 => c_begin hB6 (S4.fr hF6 rfl) (WO_fr hF6 rfl W4) (fun w7 h7 hF7 => h1 k w7))
    refine Eq.mpr (p_Bh_start.eq_1 _ _) ⟨r3, fun _ => ru_alive (fun _ => ⟨fun z => absurd z (by decide), fun _ => ?_⟩) (fun _ => ⟨fun _ => go w hC.1 hC.2.1 hC.2.2.1, fun z => absurd i_0 z⟩), fun z => absurd (show 0 ≤ (w.1 62 2).toInt by omega) z⟩
    exact h_Wa_closeAll hC.1 hC.2.1.2.2.2.2.2.2.2.1 hC.2.2.1 hC.2.1.2.2.2.2.2.2.2.2.2.1 (fun w8 hB8 hF8 hW8 => go w8 hB8 (hC.2.1.fr hF8 rfl) hW8)
theorem mn_4 {w : MW} {ts ks : List Nat} {E : Int32 → MW → Prop} {Q : Int32 → MW → Prop} (hI : BND w) (h : TpW w ts ks) (h1 : ¬ ks = [] → E 1 w) (h0 : ks = [] → E 0 w) (n : Nat) : ∀ (x : Int32) (j : Nat), j ≤ (ts ++ ks).length → ((x = 0 ∧ j ≤ ts.length) ∨ (x = 1 ∧ ¬ ks = [])) → (ts ++ ks).length - j < n → q_Mo_start_4 E Q n x (nI j) w := by
  induction n with
  | zero => intros; omega
  | succ n ih =>
    intro x j hj hx hm
    have b31 := bd_129_31 hI
    have b12 := bd_129_12 hI
    have e31 := h.1
    have ll : (ts ++ ks).length = ts.length + ks.length := List.length_append
    have tj : (nI j).toInt = (j : Int) := nI_toInt (by omega)
    rw [q_Mo_start_4.eq_2, tj, nI_1]
    refine ⟨fun c => ?_, fun c => ?_⟩
    · rcases hx with ⟨ex, le⟩ | ⟨ex, k⟩
      · rw [ex]
        refine h0 (List.eq_nil_of_length_eq_zero (by omega))
      · rw [ex]
        exact h1 k
    · refine ⟨fun c1 => ih 1 (j + 1) (by omega) (Or.inr ⟨rfl, ?_⟩) (by omega), fun c1 => ?_⟩
      · rcases hx with ⟨ex, le⟩ | ⟨ex, k⟩
        · rw [ex] at c1
          exact absurd i_0 c1
        · exact k
      · have ex : x = 0 ∧ j ≤ ts.length := by
          rcases hx with q | ⟨ex, k⟩
          · exact q
          · rw [ex] at c1
            exact absurd i1n c1
        have jl : j < (ts ++ ks).length := by omega
        have e := nd_ix (n := nI j) hI (by omega) (by omega)
        have en : (((300 : Int32) * (w.1 129 12)) + nI j).toInt.toNat = (300 * (w.1 129 12).toInt + (j : Int)).toNat := by rw [e, tj]
        have g := h.2.1 j _ (List.getElem?_eq_getElem jl)
        rw [← en] at g
        generalize hT : (w.1 138 (((300 : Int32) * (w.1 129 12)) + nI j).toInt.toNat) = tp at *
        have bt : ((ts ++ ks)[j]) < 300 ∧ ((j < ts.length ∧ (w.1 131 (300 * (w.1 129 12).toInt + (((ts ++ ks)[j] : Nat) : Int)).toNat).toInt = 24) ∨ (¬ j < ts.length ∧ (w.1 131 (300 * (w.1 129 12).toInt + (((ts ++ ks)[j] : Nat) : Int)).toNat).toInt ≤ 23)) := by
          by_cases q : j < ts.length
          · have m : (ts ++ ks)[j] = ts[j] := List.getElem_append_left q
            have t := h.2.2.1 _ (List.getElem_mem q)
            rw [m]
            exact ⟨t.1, Or.inl ⟨q, t.2⟩⟩
          · have m : (ts ++ ks)[j] = ks[j - ts.length]'(by omega) := List.getElem_append_right (by omega)
            have t := h.2.2.2 _ (List.getElem_mem (l := ks) (n := j - ts.length) (by omega))
            rw [m]
            exact ⟨t.1, Or.inr ⟨q, t.2⟩⟩
        have e2 := nd_ix (n := tp) hI (by omega) (by omega)
        have en2 : (((300 : Int32) * (w.1 129 12)) + tp).toInt.toNat = (300 * (w.1 129 12).toInt + (((ts ++ ks)[j] : Nat) : Int)).toNat := by rw [e2, g]
        refine ⟨⟨by omega, by omega⟩, Eq.mpr (p_Tx_node1.eq_1 _ _ _) ?_⟩
        rw [en2]
        refine ⟨⟨by omega, by omega⟩, fun c3 => ih 0 (j + 1) (by omega) (Or.inl ⟨rfl, ?_⟩) (by omega), fun c3 => ih 1 (j + 1) (by omega) (Or.inr ⟨rfl, fun z => ?_⟩) (by omega)⟩
        · rcases bt.2 with q | q
          · omega
          · omega
        · have lk : ks.length = 0 := by rw [z]; rfl
          rcases bt.2 with q | q
          · exact c3 q.2
          · omega
theorem mn_start {w : MW} {ts ks : List Nat} {Q : Int32 → MW → Prop} (h : MdJ w) (hT : TpW w ts ks) (h1 : ¬ ks = [] → ∀ w', Q 1 w') (h0 : ks = [] → ∀ w', Q 0 w') : p_Mo_start w Q := by
  have hP := h.1.2.2.2.1
  have b31 := bd_129_31 h.1.1
  have e31 := hT.1
  have K : ¬ ks = [] → p_Mo_closeAll w (fun w10 => (q_Mo_start_97  w10 Q)) := fun k => h_Mo_closeAll h.1.1 hP.2.1 hP.2.2.1 (fun w1 i1 f1 t1 k1 => sq_97 i1 (tlx_fr h.1.1 f1 rfl h.2.1) (by unfold VG; rw [(f1 129 8 rfl).2.1]; exact h.2.2) ⟨DR_fr f1 rfl hP.1, t1, k1, MC_fr f1 rfl hP.2.2.2.1, MZ_fr f1 rfl hP.2.2.2.2.1, RP_fr f1 rfl hP.2.2.2.2.2.1, SZ_fr f1 rfl hP.2.2.2.2.2.2⟩ ((FR.refl lst w).tr f1 rfl) (fun w' h' f' => h1 k w'))
  refine Eq.mpr (p_Mo_start.eq_1 _ _) (mn_4 h.1.1 hT (fun k => ⟨fun _ => ⟨fun _ => K k, fun _ => ⟨fun _ => sq_97 h.1.1 h.2.1 h.2.2 hP (FR.refl lst w) (fun w' h' f' => h1 k w'), fun _ => K k⟩⟩, fun z => absurd i1n z⟩) (fun k => ⟨fun z => absurd i_0 z, fun _ => h0 k w⟩) FU 0 0 (Nat.zero_le _) (Or.inl ⟨rfl, Nat.zero_le _⟩) (Nat.lt_of_le_of_lt (show _ ≤ 300 by omega) (fu_lt (by decide))))
