/-! a begin on both sides: kids, counters, the reference's common writes -/
/-- none of these has begun, none is over -/
def AO0 (v w : MW) : List Nat → Int → Prop
  | [], _ => True
  | _ :: cs, h => bgM w h.toNat = 0 ∧ ovM w h.toNat = 0 ∧ AO0 v w cs (nxC v h.toNat)
theorem ao_ab {v w : MW} : ∀ (l : List Nat) (h : Int), AO0 v w l h → AB0 v w l h := by
  intro l
  induction l with
  | nil => exact fun _ _ => trivial
  | cons c cs ih => exact fun h a => ⟨a.1, ih _ a.2.2⟩
/-- the reference's loop over the kids of a place -/
theorem b5_x {ns : List Nod} {v : MW} {E : MW → Prop} {Q : Int32 → MW → Prop} : ∀ (l : List Nat) (M s q : Nat) (x : Int32) (h : Int) (w : MW), q_Mo_begin_538 E Q M x w → x.toInt = h → Lz ns v l s h q → (∀ j : Nat, s ≤ j → j < q → (w.1 209 j).toInt = nxC v j) → BND w → ∃ w', E w' ∧ FR [(210, none), (212, none)] w w' ∧ BND w' ∧ AO0 v w' l h ∧ (∀ j : Nat, (j < s ∨ q ≤ j) → w'.1 210 j = w.1 210 j ∧ w'.1 212 j = w.1 212 j) ∧ (∀ j : Nat, w'.1 210 j = w.1 210 j ∨ (w'.1 210 j).toInt = 0) := by
  intro l
  induction l with
  | nil =>
    intro M s q x h w hq ex hL hn hB
    have e := lz_n hL
    cases M with
    | zero => exact False.elim hq
    | succ M =>
      rw [q_Mo_begin_538.eq_2] at hq
      exact ⟨w, hq.1 (by omega), FR.refl _ _, hB, trivial, fun _ _ => ⟨rfl, rfl⟩, fun _ => Or.inl rfl⟩
  | cons c cs ih =>
    intro M s q x h w hq ex hL hn hB
    obtain ⟨e1, _, m, sm, mq, L1, L2⟩ := lz_c hL
    have xs : x.toInt.toNat = s := by omega
    have hs : h.toNat = s := by omega
    cases M with
    | zero => exact False.elim hq
    | succ M =>
      rw [q_Mo_begin_538.eq_2] at hq
      have h1 := (hq.2 (by omega)).2.2.2
      rw [xs] at h1
      obtain ⟨w', a1, a2, a3, a4, a5, a6⟩ := ih M m q _ (nxC v s) _ h1 (hn s (Nat.le_refl _) (by omega)) L2 (fun j ja jb => by
        rw [sI_oth _ _ _ _ _ _ (by decide), sI_oth _ _ _ _ _ _ (by decide)]
        exact hn j (by omega) jb) (wbd_212 (wbd_210 hB s (nb_bool 0).1 (nb_bool 0).2) s (nb_bool 0).1 (nb_bool 0).2)
      have F0 : FR [(210, none), (212, none)] w (sI (sI w 210 s (vp_nar .boolean (0 : Int32))) 212 s (vp_nar .boolean (0 : Int32))) := FR.I (FR.I (FR.refl _ w) rfl) rfl
      refine ⟨w', a1, F0.tr a2 rfl, a3, ⟨?_, ?_, ?_⟩, fun j hj => ?_, fun j => ?_⟩
      · rw [hs]
        unfold bgM
        rw [(a5 s (Or.inl sm)).1, sI_oth _ _ _ _ _ _ (by decide), sI_same]
        exact nb_bool0
      · rw [hs]
        unfold ovM
        rw [(a5 s (Or.inl sm)).2, sI_same]
        exact nb_bool0
      · rw [hs]
        exact a4
      · have t := a5 j (by omega)
        refine ⟨t.1.trans ?_, t.2.trans ?_⟩
        · rw [sI_oth _ _ _ _ _ _ (by decide), sI_ne _ _ _ _ _ (by omega)]
        · rw [sI_ne _ _ _ _ _ (by omega), sI_oth _ _ _ _ _ _ (by decide)]
      · rcases a6 j with z | z
        · by_cases t : j = s
          · right
            rw [z, t, sI_oth _ _ _ _ _ _ (by decide), sI_same]
            exact nb_bool0
          · left
            rw [z, sI_oth _ _ _ _ _ _ (by decide), sI_ne _ _ _ _ _ t]
        · exact Or.inr z
/-- all of these are to be begun, the class -/
def SO0 (v v' : MW) : List Nat → Int → Prop
  | [], _ => True
  | _ :: cs, h => stg v' h.toNat = 0 ∧ SO0 v v' cs (nxC v h.toNat)
theorem bp_x {ns : List Nod} {v0 : MW} {E : MW → Prop} {Q : Int32 → MW → Prop} {a : Int32} : ∀ (l : List Nat) (M s q : Nat) (x i : Int32) (h : Int) (v : MW), q_Ru_beginPar_9 a E Q M x i v → x.toInt = h → Lz ns v0 l s h q → (∀ j : Nat, (v.1 79 j).toInt = nxC v0 j) → 0 ≤ i.toInt → i.toInt ≤ (s : Int) → q ≤ 501 → BND v → ∃ v', E v' ∧ FR [(80, none)] v v' ∧ BND v' ∧ SO0 v0 v' l h ∧ (∀ j : Nat, (j < s ∨ q ≤ j) → v'.1 80 j = v.1 80 j) := by
  intro l
  induction l with
  | nil =>
    intro M s q x i h v hq ex hL hn i0 i1 q5 hB
    have e := lz_n hL
    cases M with
    | zero => exact False.elim hq
    | succ M =>
      rw [q_Ru_beginPar_9.eq_2] at hq
      refine ⟨v, ?_, FR.refl _ _, hB, trivial, fun _ _ => rfl⟩
      by_cases z : 500 < i.toInt
      · exact hq.1 z
      · exact (hq.2 z).1 (by omega)
  | cons c cs ih =>
    intro M s q x i h v hq ex hL hn i0 i1 q5 hB
    obtain ⟨e1, _, m, sm, mq, L1, L2⟩ := lz_c hL
    have xs : x.toInt.toNat = s := by omega
    have hs : h.toNat = s := by omega
    have si := ti_add2 (Eq.refl i.toInt) i_1 (by omega) (by omega)
    cases M with
    | zero => exact False.elim hq
    | succ M =>
      rw [q_Ru_beginPar_9.eq_2] at hq
      have h1 := ((hq.2 (by omega)).2 (by omega)).2.2
      rw [xs] at h1
      obtain ⟨v', a1, a2, a3, a4, a5⟩ := ih M m q _ _ (nxC v0 s) _ h1 (hn s) L2 (fun j => by
        rw [sI_oth _ _ _ _ _ _ (by decide)]
        exact hn j) (by omega) (by omega) q5 (wbd_80 hB s (by decide) (by decide))
      have F0 : FR [(80, none)] v (sI v 80 s 0) := FR.I (FR.refl _ v) rfl
      refine ⟨v', a1, F0.tr a2 rfl, a3, ⟨?_, ?_⟩, fun j hj => ?_⟩
      · rw [hs]
        unfold stg
        rw [a5 s (Or.inl sm), sI_same]
        decide
      · rw [hs]
        exact a4
      · exact (a5 j (by omega)).trans (sI_ne _ _ _ _ _ (by omega))
/-- a node that has not begun -/
theorem dy_0 {ns : List Nod} {off : Int} {v w : MW} {k c p : Nat} {d : Nod} (hd : ns[c]? = some d) (h1 : stg v p = 0) (h2 : bgM w p = 0) : Dy ns off v w (k + 1) c p := by
  rw [Dy_u]
  exact ⟨d, hd, Or.inl ⟨h1, h2⟩⟩
theorem sik_0 {D : Nat → Nat → Prop} {v0 v' w' : MW} (hn : ∀ j, nxC v' j = nxC v0 j) : ∀ (l : List Nat) (h : Int), SO0 v0 v' l h → AO0 v0 w' l h → (∀ c ∈ l, ∀ p, stg v' p = 0 → bgM w' p = 0 → D c p) → SiK D v' w' l h := by
  intro l
  induction l with
  | nil => exact fun _ _ _ _ => trivial
  | cons c cs ih =>
    intro h a b hD
    refine ⟨Or.inr ⟨?_, b.2.1, hD c List.mem_cons_self _ a.1 b.1⟩, ?_⟩
    · have := a.1
      omega
    · rw [hn]
      exact ih _ a.2 b.2.2 (fun c hc => hD c (List.mem_cons_of_mem _ hc))
/-- the first block of a statement -/
theorem cui_1 {D : Nat → Nat → Prop} {v : MW} {b : Nat} {r : List Nat} {h : Int} (hD : D b h.toNat) : CuI D v (b :: r) h h := Or.inl ⟨rfl, hD⟩
/-- its second one -/
theorem cui_2 {ns : List Nod} {D : Nat → Nat → Prop} {v : MW} {b : Nat} {r : List Nat} {s q : Nat} {h : Int} (L : Lz ns v (b :: r) s h q) (hr : ¬ r = []) (hD : ∀ c r2, r = c :: r2 → D c (nxC v h.toNat).toNat) : CuI D v (b :: r) h (nxC v h.toNat) := by
  obtain ⟨e1, _, m, sm, mq, L1, L2⟩ := lz_c L
  have hs : h.toNat = s := by omega
  rw [hs] at hD ⊢
  cases r with
  | nil => exact absurd rfl hr
  | cons c r2 =>
    have z := (lz_c L2).1
    refine Or.inr ⟨by omega, Or.inl ⟨?_, ?_⟩⟩
    · rw [hs]
    · rw [hs]
      exact hD c r2 rfl
/-- a block that begins -/
theorem cuk_1 {ns : List Nod} {D : Nat → Nat → Prop} {v0 v w : MW} {l : List Nat} {s q : Nat} {h : Int} (L : Lz ns v0 l s h q) (hD : ∀ c cs, l = c :: cs → D c h.toNat) (hA : AB0 v w l h) : CuK D v w l h h := by
  cases l with
  | nil => exact (lz_n L).1
  | cons c cs => exact Or.inl ⟨rfl, hD c cs rfl, hA.2⟩
theorem k_cs {k : Int} (h : isS k = true ∨ k = 35) : k = 11 ∨ k = 12 ∨ k = 13 ∨ k = 14 ∨ k = 16 ∨ k = 17 ∨ k = 19 ∨ k = 20 ∨ k = 22 ∨ k = 23 ∨ k = 24 ∨ k = 25 ∨ k = 26 ∨ k = 35 := by
  rcases h with h | h
  · have := isS_t.mp h
    omega
  · omega
theorem wh_26 {k : Int} (h : isS k = true ∨ k = 35) : wht k = 22 ↔ k = 26 := by
  rcases k_cs h with e | e | e | e | e | e | e | e | e | e | e | e | e | e <;> (rw [e]; decide)
theorem wh_one {k : Int} (h : isS k = true ∨ k = 35) : (¬ (wht k = 10 ∨ wht k = 11 ∨ wht k = 12 ∨ wht k = 15 ∨ wht k = 16 ∨ wht k = 17 ∨ wht k = 13)) ↔ nxp k = 0 := by
  rcases k_cs h with e | e | e | e | e | e | e | e | e | e | e | e | e | e <;> (rw [e]; decide)
theorem one_x {K : Int32} {P : Int32 → Prop} (h : (K.toInt = 10 → P 1) ∧ (¬ K.toInt = 10 → ((K.toInt = 11 → P 1) ∧ (¬ K.toInt = 11 → ((K.toInt = 12 → P 1) ∧ (¬ K.toInt = 12 → ((K.toInt = 15 → P 1) ∧ (¬ K.toInt = 15 → ((K.toInt = 16 → P 1) ∧ (¬ K.toInt = 16 → ((K.toInt = 17 → P 1) ∧ (¬ K.toInt = 17 → ((¬ K.toInt = 13 → P 0) ∧ (¬ ¬ K.toInt = 13 → P 1)))))))))))))) : ∃ o : Int32, (o.toInt = 0 ↔ ¬ (K.toInt = 10 ∨ K.toInt = 11 ∨ K.toInt = 12 ∨ K.toInt = 15 ∨ K.toInt = 16 ∨ K.toInt = 17 ∨ K.toInt = 13)) ∧ P o := by
  have e1 : ¬ (1 : Int32).toInt = 0 := by decide
  have e0 : (0 : Int32).toInt = 0 := by decide
  by_cases k1 : K.toInt = 10
  · exact ⟨1, ⟨fun z => absurd z e1, fun z => absurd (Or.inl k1) z⟩, h.1 k1⟩
  · have h := h.2 k1
    by_cases k2 : K.toInt = 11
    · exact ⟨1, ⟨fun z => absurd z e1, fun z => absurd (Or.inr (Or.inl k2)) z⟩, h.1 k2⟩
    · have h := h.2 k2
      by_cases k3 : K.toInt = 12
      · exact ⟨1, ⟨fun z => absurd z e1, fun z => absurd (Or.inr (Or.inr (Or.inl k3))) z⟩, h.1 k3⟩
      · have h := h.2 k3
        by_cases k4 : K.toInt = 15
        · exact ⟨1, ⟨fun z => absurd z e1, fun z => absurd (Or.inr (Or.inr (Or.inr (Or.inl k4)))) z⟩, h.1 k4⟩
        · have h := h.2 k4
          by_cases k5 : K.toInt = 16
          · exact ⟨1, ⟨fun z => absurd z e1, fun z => absurd (Or.inr (Or.inr (Or.inr (Or.inr (Or.inl k5))))) z⟩, h.1 k5⟩
          · have h := h.2 k5
            by_cases k6 : K.toInt = 17
            · exact ⟨1, ⟨fun z => absurd z e1, fun z => absurd (Or.inr (Or.inr (Or.inr (Or.inr (Or.inr (Or.inl k6)))))) z⟩, h.1 k6⟩
            · have h := h.2 k6
              by_cases k7 : K.toInt = 13
              · exact ⟨1, ⟨fun z => absurd z e1, fun z => absurd (Or.inr (Or.inr (Or.inr (Or.inr (Or.inr (Or.inr k7)))))) z⟩, h.2 (fun y => y k7)⟩
              · exact ⟨0, ⟨fun _ z => z.elim k1 (fun z => z.elim k2 (fun z => z.elim k3 (fun z => z.elim k4 (fun z => z.elim k5 (fun z => z.elim k6 k7))))), fun _ => e0⟩, h.1 k7⟩
/-- counters of both sides -/
theorem cnr_c {off : Int} {v w : MW} {x y : Int32} (h : CnR off v w) (x0 : 0 ≤ x.toInt) (x1 : x.toInt ≤ 1000) (y0 : 0 ≤ y.toInt) (y1 : y.toInt ≤ 10) : CnR off (sI (sI v 61 19 x) 61 20 y) (sI (sI w 127 72 x) 127 73 y) := by
  have a19 : (sI (sI v 61 19 x) 61 20 y).1 61 19 = x := by rw [sI_ne _ _ _ _ _ (by decide), sI_same]
  have a20 : (sI (sI v 61 19 x) 61 20 y).1 61 20 = y := sI_same _ _ _ _
  have a18 : (sI (sI v 61 19 x) 61 20 y).1 61 18 = v.1 61 18 := by rw [sI_ne _ _ _ _ _ (by decide), sI_ne _ _ _ _ _ (by decide)]
  have b72 : (sI (sI w 127 72 x) 127 73 y).1 127 72 = x := by rw [sI_ne _ _ _ _ _ (by decide), sI_same]
  have b73 : (sI (sI w 127 72 x) 127 73 y).1 127 73 = y := sI_same _ _ _ _
  have b74 : (sI (sI w 127 72 x) 127 73 y).1 127 74 = w.1 127 74 := by rw [sI_ne _ _ _ _ _ (by decide), sI_ne _ _ _ _ _ (by decide)]
  have b75 : (sI (sI w 127 72 x) 127 73 y).1 127 75 = w.1 127 75 := by rw [sI_ne _ _ _ _ _ (by decide), sI_ne _ _ _ _ _ (by decide)]
  have b76 : (sI (sI w 127 72 x) 127 73 y).1 127 76 = w.1 127 76 := by rw [sI_ne _ _ _ _ _ (by decide), sI_ne _ _ _ _ _ (by decide)]
  have j17 : (sI (sI v 61 19 x) 61 20 y).2.1 61 17 = v.2.1 61 17 := rfl
  unfold CnR
  rw [a19, a20, a18, b72, b73, b74, b75, b76, j17]
  exact ⟨rfl, rfl, h.2.2.1, h.2.2.2.1, h.2.2.2.2.1, h.2.2.2.2.2.1, h.2.2.2.2.2.2.1, ⟨x0, x1⟩, y0, y1⟩
/-- may it begin: both sides -/
theorem bg_h {GoW : MW → MW → Prop} {ns : List Nod} {nm : List Nm} {ks : List Nat} {off : Int} {v w : MW} {s c : Nat} {d : Nod} {as am : Int32} {Qc Qm : Int32 → MW → Prop} (hG : GoI GoW) (hW : WS GoW ns nm ks off v w) (hc : p_Ru_mayBegin v as Qc) (hm : p_Mo_begin w am Qm) (ea : as.toInt = (s : Int)) (em : am.toInt = (s : Int)) (sp : (s : Int) < (v.1 61 5).toInt) (ec : (v.1 77 s).toInt = (c : Int)) (hd : ns[c]? = some d) (hk : isS d.1 = true ∨ d.1 = 35) : (∃ v' w', Qc 0 v' ∧ Qm 0 w' ∧ WS GoW ns nm ks off v' w' ∧ (v'.1 61 4).toInt = 2 ∧ FR lalC v v' ∧ FR lalM w w') ∨ (∃ (v1 w1 : MW) (K nd one : Int32), Qc 1 v1 ∧ q_Mo_begin_133 am (w.1 207 s) K nd one w1 Qm ∧ K.toInt = wht d.1 ∧ nd.toInt.toNat = nd1 w1 (c : Int) ∧ (one.toInt = 0 ↔ nxp d.1 = 0) ∧ WS GoW ns nm ks off v1 w1 ∧ FR [(61, some 19), (61, some 20)] v v1 ∧ FR [(127, some 72), (127, some 73)] w w1 ∧ (v1.1 61 19).toInt = (v.1 61 19).toInt + 1) := by
  have as' : as.toInt.toNat = s := by omega
  have am' : am.toInt.toNat = s := by omega
  have st := hW.2.2.1
  have ly := st.2.2.2.2.2.1
  have lys := ly.2.2 s sp
  have stc := st.2.1 c d hd
  have cl := (List.getElem?_eq_some_iff.mp hd).1
  have l3 := st.2.2.1.1
  have cn : (v.1 77 s).toInt.toNat = c := by omega
  obtain ⟨n0, n1⟩ := mb_x hc
  rw [as', cn, stc.1] at n0 n1
  rw [p_Mo_begin.eq_1, am'] at hm
  obtain ⟨K, eK, m2⟩ := kn_x (a := am) st.2.2.1 (by rw [am', ← lys.1]; exact ec) hd hm.2
  have cnr := hW.2.2.2.2.2
  have e72 : (w.1 127 72).toInt = (v.1 61 19).toInt := by rw [cnr.1]
  have e73 : (w.1 127 73).toInt = (v.1 61 20).toInt := by rw [cnr.2.1]
  have w26 := wh_26 hk
  have b19 := cnr.2.2.2.2.2.2.2.1
  have b20 := cnr.2.2.2.2.2.2.2.2
  by_cases z : 1000 ≤ (v.1 61 19).toInt ∨ (d.1 = 26 ∧ 10 ≤ (v.1 61 20).toInt)
  · left
    have hr : p_Mo_raise w (w.1 207 s) 2 (fun w4 => Qm 0 w4) := by
      by_cases y : (w.1 127 72).toInt = 1000
      · exact m2.1 y
      · have z2 : d.1 = 26 ∧ 10 ≤ (v.1 61 20).toInt := by omega
        exact ((m2.2 y).2 (fun q => q (eK.trans (w26.mpr z2.1)))).2 (fun q => q (by omega))
    have a1 := al_m hr
    have f := ws_fl (n := v.1 77 s) (k := 2) hG hW
    rw [← lys.1] at a1
    exact ⟨_, _, n0 z, a1, f.1, f.2.1, f.2.2, alm_l _ _ _⟩
  · right
    have k19 : (v.1 61 19).toInt < 1000 := by omega
    have y : ¬ (w.1 127 72).toInt = 1000 := by omega
    have h46 : q_Mo_begin_46 am (w.1 207 s) K w Qm := by
      by_cases q : K.toInt = 22
      · have q2 : d.1 = 26 := w26.mp (eK.symm.trans q)
        have k20 : ¬ (w.1 127 73).toInt = 10 := by omega
        exact ((m2.2 y).2 (fun t => t q)).1 k20
      · exact (m2.2 y).1 q
    clear m2 n0
    rw [q_Mo_begin_46.eq_1] at h46
    obtain ⟨e, he, h72⟩ : ∃ e : Int32, e = (if d.1 = 26 then (1 : Int32) else 0) ∧ q_Mo_begin_72 am (w.1 207 s) K e (w.1 127 73) (sI w 127 72 ((w.1 127 72) + (1 : Int32))) Qm := by
      by_cases q : d.1 = 26
      · exact ⟨1, by rw [if_pos q], h46.2 (fun t => t (eK.trans (w26.mpr q)))⟩
      · exact ⟨0, by rw [if_neg q], h46.1 (fun t => q (w26.mp (eK.symm.trans t)))⟩
    clear h46
    rw [← he] at n1
    have e01 : e.toInt = 0 ∨ (e.toInt = 1 ∧ d.1 = 26) := by
      rw [he]
      by_cases q : d.1 = 26
      · rw [if_pos q]
        exact Or.inr ⟨by decide, q⟩
      · rw [if_neg q]
        exact Or.inl (by decide)
    have sx := ti_add2 (Eq.refl (v.1 61 19).toInt) i_1 (by omega) (by omega)
    have sy := ti_add2 (Eq.refl (v.1 61 20).toInt) (Eq.refl e.toInt) (by omega) (by omega)
    rw [q_Mo_begin_72.eq_1, p_Tx_node1.eq_1, ← cnr.1, ← cnr.2.1] at h72
    have F : FR [(61, some 19), (61, some 20)] v (sI (sI v 61 19 ((v.1 61 19) + (1 : Int32))) 61 20 ((v.1 61 20) + e)) := FR.I (FR.I (FR.refl _ v) rfl) rfl
    have G : FR [(127, some 72), (127, some 73)] w (sI (sI w 127 72 ((v.1 61 19) + (1 : Int32))) 127 73 ((v.1 61 20) + e)) := FR.I (FR.I (FR.refl _ w) rfl) rfl
    have W1 : WS GoW ns nm ks off (sI (sI v 61 19 ((v.1 61 19) + (1 : Int32))) 61 20 ((v.1 61 20) + e)) (sI (sI w 127 72 ((v.1 61 19) + (1 : Int32))) 127 73 ((v.1 61 20) + e)) := ws_f hG hW (wbd_61_20 (wbd_61_19 hW.2.1.1 (by omega) (by omega)) (by omega) (by omega)) (wbd_127_73 (wbd_127_72 hW.2.1.2 (by omega) (by omega)) (by omega) (by omega)) ((FR.refl lrC v).tr F rfl) ((FR.refl lrM w).tr G rfl) (vlr_f hW.2.2.2.1 F G rfl rfl) (alr_f hW.2.2.2.2.1 F G rfl rfl) (cnr_c cnr (by omega) (by omega) (by omega) (by omega))
    have hv1 := n1 z
    have u19 : ((sI (sI v 61 19 ((v.1 61 19) + (1 : Int32))) 61 20 ((v.1 61 20) + e)).1 61 19).toInt = (v.1 61 19).toInt + 1 := by
      rw [sI_ne _ _ _ _ _ (by decide), sI_same]
      exact sx
    generalize (sI (sI v 61 19 ((v.1 61 19) + (1 : Int32))) 61 20 ((v.1 61 20) + e)) = v1 at *
    generalize (sI (sI w 127 72 ((v.1 61 19) + (1 : Int32))) 127 73 ((v.1 61 20) + e)) = w1 at *
    obtain ⟨o, o1, o2⟩ := one_x (P := fun o => q_Mo_begin_133 am (w.1 207 s) K (((300 : Int32) * (w1.1 129 12)) + (w.1 207 s)) o w1 Qm) h72
    refine ⟨v1, w1, K, _, o, hv1, o2, eK, ndx W1.2.2.1.2.2.1 (by rw [← lys.1]; exact ec) (by omega), ?_, W1, F, G, u19⟩
    rw [o1, eK]
    exact wh_one hk
/-- the reference's writes at a begin -/
def bxW (w : MW) (s : Nat) (x mn : Int64) : MW := sI (sJ (sJ (sI (sI (sI w 210 s (vp_nar .boolean (1 : Int32))) 214 s (w.1 127 74)) 213 s (w.1 208 s)) 216 s x) 215 s mn) 211 s (vp_nar .boolean (0 : Int32))
def lbx : Pl := [(210, none), (211, none), (213, none), (214, none), (215, none), (216, none)]
theorem bx_f (w : MW) (s : Nat) (x mn : Int64) : FR lbx w (bxW w s x mn) := FR.I (FR.J (FR.J (FR.I (FR.I (FR.I (FR.refl _ w) rfl) rfl) rfl) rfl) rfl) rfl
theorem bx_b {w : MW} (h : BND w) (s : Nat) (x mn : Int64) : BND (bxW w s x mn) := wbd_211 (bnd_e (bnd_e (wbd_213 (wbd_214 (wbd_210 h s (nb_bool 1).1 (nb_bool 1).2) s) s (bd_208 h s).1 (bd_208 h s).2) rfl) rfl) s (nb_bool 0).1 (nb_bool 0).2
theorem bx_s (w : MW) (s : Nat) (x mn : Int64) : ((bxW w s x mn).1 210 s).toInt = 1 ∧ ((bxW w s x mn).1 211 s).toInt = 0 ∧ (bxW w s x mn).1 213 s = w.1 208 s ∧ (bxW w s x mn).1 214 s = w.1 127 74 ∧ (bxW w s x mn).2.1 215 s = mn ∧ (bxW w s x mn).2.1 216 s = x := by
  unfold bxW
  refine ⟨?_, ?_, ?_, ?_, ?_, ?_⟩
  · rw [sI_oth _ _ _ _ _ _ (by decide), sJ_I, sJ_I, sI_oth _ _ _ _ _ _ (by decide), sI_oth _ _ _ _ _ _ (by decide), sI_same]
    exact nb_bool1
  · rw [sI_same]
    exact nb_bool0
  · rw [sI_oth _ _ _ _ _ _ (by decide), sJ_I, sJ_I, sI_same]
  · rw [sI_oth _ _ _ _ _ _ (by decide), sJ_I, sJ_I, sI_oth _ _ _ _ _ _ (by decide), sI_same]
  · rw [sI_J, sJ_same]
  · rw [sI_J, sJ_at, if_neg (fun z => absurd z.1 (by decide)), sJ_same]
theorem bx_o (w : MW) (s : Nat) (x mn : Int64) (j : Nat) (h : ¬ j = s) : (bxW w s x mn).1 210 j = w.1 210 j ∧ (bxW w s x mn).1 211 j = w.1 211 j ∧ (bxW w s x mn).1 213 j = w.1 213 j ∧ (bxW w s x mn).1 214 j = w.1 214 j ∧ (bxW w s x mn).2.1 215 j = w.2.1 215 j ∧ (bxW w s x mn).2.1 216 j = w.2.1 216 j := by
  unfold bxW
  refine ⟨?_, ?_, ?_, ?_, ?_, ?_⟩
  · rw [sI_oth _ _ _ _ _ _ (by decide), sJ_I, sJ_I, sI_oth _ _ _ _ _ _ (by decide), sI_oth _ _ _ _ _ _ (by decide), sI_ne _ _ _ _ _ h]
  · rw [sI_ne _ _ _ _ _ h, sJ_I, sJ_I, sI_oth _ _ _ _ _ _ (by decide), sI_oth _ _ _ _ _ _ (by decide), sI_oth _ _ _ _ _ _ (by decide)]
  · rw [sI_oth _ _ _ _ _ _ (by decide), sJ_I, sJ_I, sI_ne _ _ _ _ _ h, sI_oth _ _ _ _ _ _ (by decide), sI_oth _ _ _ _ _ _ (by decide)]
  · rw [sI_oth _ _ _ _ _ _ (by decide), sJ_I, sJ_I, sI_oth _ _ _ _ _ _ (by decide), sI_ne _ _ _ _ _ h, sI_oth _ _ _ _ _ _ (by decide)]
  · rw [sI_J, sJ_at, if_neg (fun z => h z.2), sJ_at, if_neg (fun z => absurd z.1 (by decide)), sI_J, sI_J, sI_J]
  · rw [sI_J, sJ_at, if_neg (fun z => absurd z.1 (by decide)), sJ_at, if_neg (fun z => h z.2), sI_J, sI_J, sI_J]
def b3W (w : MW) (s : Nat) (x : Int64) : MW := sJ (sI (sI (sI w 210 s (vp_nar .boolean (1 : Int32))) 214 s (w.1 127 74)) 213 s (w.1 208 s)) 216 s x
/-- nothing is reckoned -/
theorem b133_0 {a n K nd o : Int32} {w : MW} {Q : Int32 → MW → Prop} {s : Nat} (h : q_Mo_begin_133 a n K nd o w Q) (h1 : o.toInt = 0) (hK : ¬ K.toInt = 13) (hb : (w.1 127 76).toInt = -1) (ea : a.toInt.toNat = s) : q_Mo_begin_248 a n K nd 0 0 a (b3W w s 0) Q := by
  rw [q_Mo_begin_133.eq_1] at h
  have h2 := h.1 h1
  rw [q_Mo_begin_157.eq_1] at h2
  have h3 := h2.1 hK
  rw [q_Mo_begin_182.eq_1] at h3
  have h4 := ((ib_0 h3 hb).1 (by decide)).2.2.2.2.2.1 hK
  rw [ea] at h4
  exact h4
theorem b182_n {a n K nd : Int32} {x y : Int64} {w : MW} {Q : Int32 → MW → Prop} {s : Nat} (h3 : q_Mo_begin_182 a n K nd x y w Q) (hK : ¬ K.toInt = 13) (hb : (w.1 127 76).toInt = -1) (ea : a.toInt.toNat = s) : q_Mo_begin_248 a n K nd x x a (b3W w s x) Q := by
  rw [q_Mo_begin_182.eq_1] at h3
  have h4 := ((ib_0 h3 hb).1 (by decide)).2.2.2.2.2.1 hK
  rw [ea] at h4
  exact h4
theorem b182_r {a n K nd : Int32} {x y : Int64} {w : MW} {Q : Int32 → MW → Prop} {s : Nat} (h3 : q_Mo_begin_182 a n K nd x y w Q) (hK : K.toInt = 13) (hb : (w.1 127 76).toInt = -1) (ea : a.toInt.toNat = s) : q_Mo_begin_248 a n K nd x y a (b3W w s x) Q := by
  rw [q_Mo_begin_182.eq_1] at h3
  have h4 := ((ib_0 h3 hb).1 (by decide)).2.2.2.2.2.2 (fun z => z hK)
  rw [ea] at h4
  exact h4
theorem b182_b {a n K nd : Int32} {x y : Int64} {w : MW} {Q : Int32 → MW → Prop} (h3 : q_Mo_begin_182 a n K nd x y w Q) (hb : ¬ (w.1 127 76).toInt = -1) : Q 0 (sI (alM w (w.1 127 76) 1) 127 76 (-1)) := by
  rw [q_Mo_begin_182.eq_1] at h3
  exact (ib_1 h3 hb).2 (by decide)
theorem sgx (w : MW) (s : Nat) (x mn : Int64) : SgR false w (bxW w s x mn) := ⟨(bx_f w s x mn 127 74 rfl).1, fun j h => by
  by_cases t : j = s
  · right
    refine ⟨rfl, ?_⟩
    unfold siM
    rw [t, (bx_s w s x mn).2.2.2.1]
  · left
    have o := bx_o w s x mn j t
    unfold bgM siM at *
    rw [o.1] at h
    rw [o.2.2.2.1]
    exact ⟨h, rfl⟩⟩
