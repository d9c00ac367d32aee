/-! the class makes nodes of sums -/
theorem pnc_s {w w' : MW} {ns : List Nod} {d : Nod} (h : PNc w ns) (K : KNd ns.length w w') (e : (w'.1 108 1).toInt = (ns.length : Int) + 1) (e1 : (w'.1 109 ns.length).toInt = d.1) (e2 : (w'.1 110 ns.length).toInt = d.2.1) (e3 : d.1 = 31 → (w'.2.1 115 ns.length).toInt = d.2.2.1) : PNc w' (ns ++ [d]) := by
  refine ⟨by rw [e, List.length_append, List.length_singleton]; omega, fun i x hx => ?_⟩
  by_cases c : i < ns.length
  · rw [List.getElem?_append_left c] at hx
    rw [(K 109 i (by unfold ndc; omega) c).1, (K 110 i (by unfold ndc; omega) c).1, (K 115 i (by unfold ndc; omega) c).2]
    exact h.2 i x hx
  · have il : i < (ns ++ [d]).length := (List.getElem?_eq_some_iff.mp hx).1
    rw [List.length_append, List.length_singleton] at il
    have ei : i = ns.length := by omega
    rw [ei, List.getElem?_append_right (Nat.le_refl _), Nat.sub_self] at hx
    have ex : d = x := Option.some.inj hx
    rw [← ex, ei]
    exact ⟨e1, e2, e3⟩
theorem tkc_fr {l : Pl} {w w' : MW} {t : Tk} (h : TkC w t) (hF : FR l w w') (ho : off l [(87, some 2), (87, some 3), (87, some 4), (87, some 5), (87, some 6), (87, some 7)] = true) : TkC w' t := by
  unfold TkC at h ⊢
  rw [(hF 87 2 (off_hit ho rfl)).1, (hF 87 3 (off_hit ho rfl)).1, (hF 87 4 (off_hit ho rfl)).1, (hF 87 5 (off_hit ho rfl)).2.1, (hF 87 6 (off_hit ho rfl)).2.1, (hF 87 7 (off_hit ho rfl)).1]
  exact h
/-- a node that is no number; nothing is wrong -/
theorem mk_g {w : MW} {f : Int → Int} {n : Int} {nm : List Nm} {op : Nat} {p : Int} {ns : List Nod} {a b : Int32} {d : Nod} {Q : Int32 → MW → Prop} (h : XS w f n nm op p ns) (ha : a.toInt = d.1) (hb : b.toInt = d.2.1) (hd : ¬ d.1 = 31) (h1 : ¬ ns.length = 300 → ∀ w', FR lmkn w w' → KNd ns.length w w' → XS w' f n nm op p (ns ++ [d]) → (w'.1 111 ns.length).toInt = (ns.length : Int) → (w'.1 112 ns.length).toInt = (ns.length : Int) → (w'.1 113 ns.length).toInt = -1 → (w'.1 114 ns.length).toInt = -1 → (w'.1 88 ns.length).toInt = 1 → (w'.1 89 ns.length).toInt = 0 → Q (nI ns.length) w') (h0 : ns.length = 300 → ∀ w', FR lmkn w w' → KNd ns.length w w' → XW w' f n nm op (wrd f n p).2.1 ns.length → Q (nI ns.length) w') : p_Rd_makeNode w a b Q := by
  have hw := h.2.2.2.1
  have n3 := h.2.2.2.2.2.1
  refine mk_x h.1.1 h.1.2.2.1 h.2.2.2.2.1.1 n3 (fun w' B' F' K' v9 v10 v11 v12 v13 v14 v88 v89 v1 v => ?_)
  have X' : XB w' f n nm op := xb_fr h.1 F' B' (by rw [(F' 87 2 rfl).1]; exact h.1.2.2.2.2.2.2.2.2) rfl
  by_cases c : ns.length = 300
  · rw [if_pos ⟨c, by omega⟩] at v
    have wn := wrd_n (f := f) (n := n) (p := p) (xb_f h.1) h.2.2.2.2.2.2.1 h.2.2.2.2.2.2.2
    exact h0 c w' F' K' ⟨X', by rw [v]; exact h.2.1.2.1, wn.2.2.1, by omega, n3⟩
  · rw [if_neg (fun z => c z.1)] at v
    exact h1 c w' F' K' ⟨X', tkc_fr h.2.1 F' rfl, h.2.2.1, by rw [v]; exact hw, pnc_s h.2.2.2.2.1 K' v1 (by rw [v9]; exact ha) (by rw [v10]; exact hb) (fun z => absurd z hd), by rw [List.length_append, List.length_singleton]; omega, h.2.2.2.2.2.2.1, h.2.2.2.2.2.2.2⟩ v11 v12 v13 v14 v88 v89
/-- a node where something is wrong -/
theorem mk_w {w : MW} {f : Int → Int} {n : Int} {nm : List Nm} {op N : Nat} {e : Int} {a b : Int32} {Q : Int32 → MW → Prop} (h : XW w f n nm op e N) (hQ : ∀ (r : Int32) (w' : MW), FR lmkn w w' → KNd N w w' → 0 ≤ r.toInt → r.toInt < 301 → (N : Int) ≤ r.toInt → XW w' f n nm op e N → Q r w') : p_Rd_makeNode w a b Q := by
  have b1 := bd_108_1 h.1.1
  have hN := h.2.2.2.1
  have n3 := h.2.2.2.2
  have ew := h.2.1
  have e0 := h.2.2.1
  have em : (300 : Int32).toInt = 300 := by decide
  have hr := h.1.2.2.1
  have main : ∀ r : Int32, (N : Int) ≤ r.toInt → r.toInt ≤ 300 → ((w.2.2 87 1 = some 108) ∧ ((0 ≤ r.toInt ∧ r.toInt < 301) ∧ ((w.2.2 87 1 = some 108) ∧ ((0 ≤ r.toInt ∧ r.toInt < 301) ∧ ((w.2.2 87 1 = some 108) ∧ ((0 ≤ r.toInt ∧ r.toInt < 301) ∧ ((w.2.2 87 1 = some 108) ∧ ((0 ≤ r.toInt ∧ r.toInt < 301) ∧ ((w.2.2 87 1 = some 108) ∧ ((0 ≤ r.toInt ∧ r.toInt < 301) ∧ ((w.2.2 87 1 = some 108) ∧ ((0 ≤ r.toInt ∧ r.toInt < 301) ∧ ((0 ≤ r.toInt ∧ r.toInt < 301) ∧ ((0 ≤ r.toInt ∧ r.toInt < 301) ∧ ((w.2.2 87 1 = some 108) ∧ ((¬ r.toInt = 300 → (Q r (sI (sI (sI (sI (sI (sI (sI (sI (sI w 109 r.toInt.toNat a) 110 r.toInt.toNat b) 111 r.toInt.toNat r) 112 r.toInt.toNat r) 113 r.toInt.toNat (-1)) 114 r.toInt.toNat (-1)) 88 r.toInt.toNat 1) 89 r.toInt.toNat 0) 108 1 (r + (1 : Int32))))) ∧ (¬ (¬ r.toInt = 300) → (p_Rd_fail (sI (sI (sI (sI (sI (sI (sI (sI (sI w 109 r.toInt.toNat a) 110 r.toInt.toNat b) 111 r.toInt.toNat r) 112 r.toInt.toNat r) 113 r.toInt.toNat (-1)) 114 r.toInt.toNat (-1)) 88 r.toInt.toNat 1) 89 r.toInt.toNat 0) 108 1 (r + (1 : Int32)))  (fun w19 => (Q r w19)))))))))))))))))))) := fun r r0 r3 => by
    have bi : 0 ≤ r.toInt ∧ r.toInt < 301 := by omega
    have sum := ti_add2 (Eq.refl r.toInt) i_1 (by omega) (by omega)
    obtain ⟨j, hj⟩ : ∃ j : Nat, r.toInt.toNat = j := ⟨_, rfl⟩
    have jr : (j : Int) = r.toInt := by omega
    rw [hj]
    have B1 : BND (sI (sI (sI (sI (sI (sI (sI (sI (sI w 109 j a) 110 j b) 111 j r) 112 j r) 113 j (-1)) 114 j (-1)) 88 j 1) 89 j 0) 108 1 (r + (1 : Int32))) := by
      exact wbd_108_1 (wbd_89 (wbd_88 (wbd_114 (wbd_113 (wbd_112 (wbd_111 (wbd_110 (wbd_109 h.1.1 _) _) _ (by omega) (by omega)) _ (by omega) (by omega)) _ (by decide) (by decide)) _ (by decide) (by decide)) _) _) (by omega) (by omega)
    have F1 : FR lmkn w (sI (sI (sI (sI (sI (sI (sI (sI (sI w 109 j a) 110 j b) 111 j r) 112 j r) 113 j (-1)) 114 j (-1)) 88 j 1) 89 j 0) 108 1 (r + (1 : Int32))) := FR.I (FR.I (FR.I (FR.I (FR.I (FR.I (FR.I (FR.I (FR.I (FR.refl _ w) rfl) rfl) rfl) rfl) rfl) rfl) rfl) rfl) rfl
    have K1 : KNd N w (sI (sI (sI (sI (sI (sI (sI (sI (sI w 109 j a) 110 j b) 111 j r) 112 j r) 113 j (-1)) 114 j (-1)) 88 j 1) 89 j 0) 108 1 (r + (1 : Int32))) := fun k i hk hi => by
      have ne : ¬ k = 108 := by unfold ndc at hk; omega
      have nj : ∀ k', ¬ (k = k' ∧ i = j) := fun k' z => by omega
      refine ⟨?_, rfl⟩
      rw [sI_at, if_neg (fun z => ne z.1), sI_at, if_neg (nj _), sI_at, if_neg (nj _), sI_at, if_neg (nj _), sI_at, if_neg (nj _), sI_at, if_neg (nj _), sI_at, if_neg (nj _), sI_at, if_neg (nj _), sI_at, if_neg (nj _)]
    have v1 : ((sI (sI (sI (sI (sI (sI (sI (sI (sI w 109 j a) 110 j b) 111 j r) 112 j r) 113 j (-1)) 114 j (-1)) 88 j 1) 89 j 0) 108 1 (r + (1 : Int32))).1 108 1).toInt = r.toInt + 1 := by
      rw [sI_same]
      exact sum
    have e9 : (sI (sI (sI (sI (sI (sI (sI (sI (sI w 109 j a) 110 j b) 111 j r) 112 j r) 113 j (-1)) 114 j (-1)) 88 j 1) 89 j 0) 108 1 (r + (1 : Int32))).1 87 9 = w.1 87 9 := rfl
    generalize (sI (sI (sI (sI (sI (sI (sI (sI (sI w 109 j a) 110 j b) 111 j r) 112 j r) 113 j (-1)) 114 j (-1)) 88 j 1) 89 j 0) 108 1 (r + (1 : Int32))) = w1 at *
    have X1 : XW w1 f n nm op e N := ⟨xb_fr h.1 F1 B1 (by rw [(F1 87 2 rfl).1]; exact h.1.2.2.2.2.2.2.2.2) rfl, by rw [e9]; exact ew, e0, by omega, n3⟩
    exact ⟨hr, bi, hr, bi, hr, bi, hr, bi, hr, bi, hr, bi, bi, bi, hr, fun z => hQ r w1 F1 K1 bi.1 bi.2 r0 X1, fun z => fl_w X1 (hQ r w1 F1 K1 bi.1 bi.2 r0 X1)⟩
  refine Eq.mpr (p_Rd_makeNode.eq_1 _ _ _ _) ⟨hr, Eq.mpr (p_Ma_min.eq_1 _ _ _ _) ⟨fun z => main _ ?_ ?_, fun z => main _ ?_ ?_⟩⟩
  · rw [em]
    omega
  · rw [em]
    omega
  · exact hN
  · rw [em] at z
    omega
