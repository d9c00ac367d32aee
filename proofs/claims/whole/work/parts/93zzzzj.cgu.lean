/-! the class reads if, repeat, limit -/
theorem zi_last {f : Int → Int} {n : Int} {lk : List Int → Int × Int × Int × Int} {op : Nat} {a : Int} {s s' : ZS} (h : ZI f n lk op 4 a s (zok s')) : (∃ d, s'.2.1[s'.2.1.length - 1]? = some d ∧ d.1 = 35) ∧ 0 < s'.2.1.length := by
  obtain ⟨k, h⟩ := h
  have h' : zbl f n (ZZ f n lk k) op s (zok s') := h
  unfold zbl at h'
  by_cases c : (wrd f n s.1).1 = 123 ∧ op < 20
  · rw [if_pos c] at h'
    obtain ⟨r1, _, b⟩ := h'
    by_cases g : r1.1 = true
    · rw [if_pos g] at b
      unfold znd at b
      by_cases q : r1.2.2.2.1.length = 300
      · rw [if_pos q] at b
        exact absurd (show true = false from congrArg Prod.fst b) (by decide)
      · rw [if_neg q] at b
        have e : s' = (r1.2.2.1, r1.2.2.2.1 ++ [(35, 0, 0, r1.2.2.2.2.2.1)], r1.2.2.2.2.1 + 0, s.2.2.2.1 ++ [r1.2.2.2.1.length], s.2.2.2.2) := congrArg (fun r : ZR => r.2.2) b
        rw [e]
        show (∃ d, (r1.2.2.2.1 ++ [(35, 0, 0, r1.2.2.2.2.2.1)])[(r1.2.2.2.1 ++ [(35, 0, 0, r1.2.2.2.2.2.1)]).length - 1]? = some d ∧ d.1 = 35) ∧ 0 < (r1.2.2.2.1 ++ [(35, 0, 0, r1.2.2.2.2.2.1)]).length
        rw [List.length_append, List.length_singleton, Nat.add_sub_cancel]
        refine ⟨⟨(35, 0, 0, r1.2.2.2.2.2.1), ?_, rfl⟩, by omega⟩
        rw [List.getElem?_append_right (Nat.le_refl _), Nat.sub_self]
        rfl
    · rw [if_neg g] at b
      exact absurd (show r1.1 = true from (congrArg Prod.fst b).symm) g
  · rw [if_neg c] at h'
    exact absurd (show true = false from congrArg Prod.fst h') (by decide)
theorem cw_163 {B P S : MW → (Int32 → MW → Prop) → Prop} {G : MW → Int32 → (Int32 → MW → Prop) → Prop} {w : MW} {f : Int → Int} {n : Int} {nm : List Nm} {op : Nat} {e : Int} {y4 y5 y6 a b : Int32} {Q : Int32 → MW → Prop} (h : ZW w f n nm op e) (h4 : 0 ≤ y4.toInt ∧ y4.toInt < 301) (h5 : y5.toInt < 301) (h6 : 0 ≤ y6.toInt ∧ y6.toInt < 301) (hQ : ∀ w', ZW w' f n nm op e → Q y6 w') : q_Rd_readGuarded_163 B G P S y4 y5 y6 a b y6 w Q := by
  have fin : ∀ r19 r24 : Int32, (0 ≤ y6.toInt ∧ y6.toInt < 301) ∧ (Q y6 (sI (sI w 88 y6.toInt.toNat r19) 89 y6.toInt.toNat r24)) := fun r19 r24 => by
    have F : FR [(88, none), (89, none)] w (sI (sI w 88 y6.toInt.toNat r19) 89 y6.toInt.toNat r24) := FR.I (FR.I (FR.refl _ w) rfl) rfl
    exact ⟨h6, hQ _ (zw_st h F (wbd_89 (wbd_88 h.1.1 _) _) rfl)⟩
  exact Eq.mpr (q_Rd_readGuarded_163.eq_1 _ _ _ _ _ _ _ _ _ _ _ _) (min_w (fun r19 => ⟨h6, h4, fun z => ⟨⟨z, h5⟩, max_w (fun r24 => fin r19 r24)⟩, fun _ => max_w (fun r26 => fin r19 r26)⟩))
theorem cw_94 {B P S : MW → (Int32 → MW → Prop) → Prop} {G : MW → Int32 → (Int32 → MW → Prop) → Prop} {w : MW} {f : Int → Int} {n : Int} {nm : List Nm} {op : Nat} {e : Int} {k fr to y4 y5 : Int32} {Q : Int32 → MW → Prop} (h : ZW w f n nm op e) (f0 : 0 ≤ fr.toInt ∧ fr.toInt ≤ 301) (t0 : 0 ≤ to.toInt ∧ to.toInt ≤ 301) (h4 : 0 ≤ y4.toInt ∧ y4.toInt < 301) (h5 : -1 ≤ y5.toInt ∧ y5.toInt < 301) (hQ : ∀ (y : Int32) (w' : MW), ZW w' f n nm op e → 0 ≤ y.toInt → y.toInt < 301 → Q y w') : q_Rd_readGuarded_94 B G P S k fr to y4 y5 w Q := by
  refine Eq.mpr (q_Rd_readGuarded_94.eq_1 _ _ _ _ _ _ _ _ _ _ _) (cw_mk h (fun r10 w10 r0 r1 W10 => cw_gr W10 r0 r1 f0 t0 (fun w11 W11 => ⟨W11.1.2.2.1, ⟨r0, r1⟩, W11.1.2.2.1, h4, h4, ?_⟩)))
  have F : FR [(113, none), (114, none)] w11 (sI (sI w11 113 r10.toInt.toNat y4) 114 y4.toInt.toNat y5) := FR.I (FR.I (FR.refl _ w11) rfl) rfl
  have W12 : ZW (sI (sI w11 113 r10.toInt.toNat y4) 114 y4.toInt.toNat y5) f n nm op e := zw_st W11 F (wbd_114 (wbd_113 W11.1.1 _ (by omega) (by omega)) _ h5.1 (by omega)) rfl
  exact ⟨fun z => ⟨⟨z, h5.2⟩, cw_163 W12 h4 h5.2 ⟨r0, r1⟩ (fun w' W' => hQ _ w' W' r0 r1)⟩, fun _ => cw_163 W12 h4 h5.2 ⟨r0, r1⟩ (fun w' W' => hQ _ w' W' r0 r1)⟩
/-- the node of if, repeat, limit -/
theorem ck_94 {oq : OQ} {B P S : MW → (Int32 → MW → Prop) → Prop} {G : MW → Int32 → (Int32 → MW → Prop) → Prop} {w : MW} {f : Int → Int} {n k : Int} {nm : List Nm} {op jj : Nat} {t : ZS} {a fr to y4 y5 : Int32} {e b1 : Nat} {l2 : List Nat} {Q : Int32 → MW → Prop} (hZ : ZG w f n oq nm op jj t) (kS : isS k = true) (k23 : ¬ k = 23) (ha : a.toInt = k) (hA : t.2.2.2.2 = (0, 0, 0)) (f0 : 0 ≤ fr.toInt ∧ fr.toInt ≤ 301) (t0 : 0 ≤ to.toInt ∧ to.toInt ≤ 301) (hk : t.2.2.2.1 = e :: b1 :: l2) (ze : ZC t.2.1 e) (e4 : y4.toInt = (b1 : Int)) (h35 : ∃ d, t.2.1[b1]? = some d ∧ d.1 = 35) (h5 : (l2 = [] ∧ y5.toInt = -1) ∨ ∃ b2, l2 = [b2] ∧ y5.toInt = (b2 : Int) ∧ (∃ d, t.2.1[b2]? = some d ∧ d.1 = 35) ∧ (w.1 114 b2).toInt = -1 ∧ ¬ b2 = b1) {lo : Nat} (kne : nxp k = 1) (k14 : ¬ k = 14) (T : TX t.2.1 lo e 44) (hfr : fr.toInt = (lo : Int)) (hto : to.toInt = (e : Int) + 1) (hnk : ∀ (i : Nat) (d : Nod), t.2.1[i]? = some d → ¬ own d.1 = 0 → ¬ b1 ∈ d.2.2.2) (hQ : ∀ (y : Int32) (w' : MW), MKo w w' f n nm op t (k, t.2.2.2.2.1, t.2.2.2.2.2.2, t.2.2.2.1) y → Q y w') : q_Rd_readGuarded_94 B G P S a fr to y4 y5 w Q := by
  have q := isS_t.mp kS
  have l3 := hZ.1.2.2.2.2.2.1
  obtain ⟨d1, hd1, ed1⟩ := h35
  have b1l := (List.getElem?_eq_some_iff.mp hd1).1
  have s1 := hZ.2.2.2.2.1 b1 d1 hd1 (by rw [ed1]; decide)
  have g1 := gC_cap (ns := t.2.1) b1
  have gd1 := gD_b hZ.2.2.2.2.2.1 b1 b1l
  have arg0 : (0 : Int32).toInt = t.2.2.2.2.1 := by
    rw [hA]
    decide
  have y5b : -1 ≤ y5.toInt ∧ y5.toInt < 301 := by
    rcases h5 with h | ⟨b2, _, e5, ⟨d2, hd2, _⟩, _⟩
    · omega
    · have := (List.getElem?_eq_some_iff.mp hd2).1
      omega
  refine Eq.mpr (q_Rd_readGuarded_94.eq_1 _ _ _ _ _ _ _ _ _ _ _) (cm_mk (d := (k, t.2.2.2.2.1, t.2.2.2.2.2.2, t.2.2.2.1)) hZ ha arg0 (show ¬ k = 31 by omega) (fun n3 w10 W10 => ?_) (fun n3 w10 X10 e8 e0 _ _ ev => ?_))
  · have r3 : (nI 300).toInt = 300 := by decide
    refine cw_gr W10 (by omega) (by omega) f0 t0 (fun w11 W11 => ⟨W11.1.2.2.1, ⟨by omega, by omega⟩, W11.1.2.2.1, ⟨by omega, by omega⟩, ⟨by omega, by omega⟩, ?_⟩)
    have F : FR [(113, none), (114, none)] w11 (sI (sI w11 113 (nI 300).toInt.toNat y4) 114 y4.toInt.toNat y5) := FR.I (FR.I (FR.refl _ w11) rfl) rfl
    have W12 : ZW (sI (sI w11 113 (nI 300).toInt.toNat y4) 114 y4.toInt.toNat y5) f n nm op (wrd f n t.1).2.1 := zw_st W11 F (wbd_114 (wbd_113 W11.1.1 _ (by omega) (by omega)) _ y5b.1 (by omega)) rfl
    have o : ∀ w', ZW w' f n nm op (wrd f n t.1).2.1 → Q (nI 300) w' := fun w' W' => hQ _ w' (Or.inl ⟨n3, W', by omega, by omega⟩)
    exact ⟨fun z => ⟨⟨z, y5b.2⟩, cw_163 W12 ⟨by omega, by omega⟩ y5b.2 ⟨by omega, by omega⟩ o⟩, fun _ => cw_163 W12 ⟨by omega, by omega⟩ y5b.2 ⟨by omega, by omega⟩ o⟩
  · have tl : (nI t.2.1.length).toInt = (t.2.1.length : Int) := nI_toInt (by omega)
    have tt : (nI t.2.1.length).toInt.toNat = t.2.1.length := by omega
    have t4 : y4.toInt.toNat = b1 := by omega
    have r10 : 0 ≤ (nI t.2.1.length).toInt ∧ (nI t.2.1.length).toInt < 301 := ⟨by omega, by omega⟩
    refine Eq.mpr (p_Rd_giveRange.eq_1 _ _ _ _ _) ⟨X10.1.2.2.1, r10, X10.1.2.2.1, r10, X10.1.2.2.1, r10, X10.1.2.2.1, ⟨by omega, by omega⟩, ⟨by omega, by omega⟩, ?_⟩
    rw [tt, t4]
    have F12 : FR [(111, none), (112, none), (113, none), (114, none)] w10 (sI (sI (sI (sI w10 111 t.2.1.length fr) 112 t.2.1.length to) 113 t.2.1.length y4) 114 b1 y5) := FR.I (FR.I (FR.I (FR.I (FR.refl _ w10) rfl) rfl) rfl) rfl
    have B12 : BND (sI (sI (sI (sI w10 111 t.2.1.length fr) 112 t.2.1.length to) 113 t.2.1.length y4) 114 b1 y5) := wbd_114 (wbd_113 (wbd_112 (wbd_111 X10.1.1 _ f0.1 f0.2) _ t0.1 t0.2) _ (by omega) (by omega)) _ y5b.1 (by omega)
    have r88 : ∀ j, (sI (sI w10 111 t.2.1.length fr) 112 t.2.1.length to).1 88 j = w10.1 88 j := fun j => rfl
    have o1 : (w10.1 88 b1).toInt = gC (csl t.2.1 []) b1 := by rw [(e8 b1 b1l).1]; exact s1.1
    have p1 : (w10.1 89 b1).toInt = gD (csl t.2.1 []) b1 := by rw [(e8 b1 b1l).2.1]; exact s1.2.1
    have v1 : (sI (sI (sI (sI w10 111 t.2.1.length fr) 112 t.2.1.length to) 113 t.2.1.length y4) 114 b1 y5).1 111 t.2.1.length = fr := by rw [sI_oth _ _ _ _ _ _ (by decide), sI_oth _ _ _ _ _ _ (by decide), sI_oth _ _ _ _ _ _ (by decide), sI_same]
    have v2 : (sI (sI (sI (sI w10 111 t.2.1.length fr) 112 t.2.1.length to) 113 t.2.1.length y4) 114 b1 y5).1 112 t.2.1.length = to := by rw [sI_oth _ _ _ _ _ _ (by decide), sI_oth _ _ _ _ _ _ (by decide), sI_same]
    have v3 : (sI (sI (sI (sI w10 111 t.2.1.length fr) 112 t.2.1.length to) 113 t.2.1.length y4) 114 b1 y5).1 113 t.2.1.length = y4 := by rw [sI_oth _ _ _ _ _ _ (by decide), sI_same]
    have v4 : (sI (sI (sI (sI w10 111 t.2.1.length fr) 112 t.2.1.length to) 113 t.2.1.length y4) 114 b1 y5).1 114 b1 = y5 := sI_same _ _ _ _
    have v5 : ∀ c : Nat, ¬ c = b1 → (sI (sI (sI (sI w10 111 t.2.1.length fr) 112 t.2.1.length to) 113 t.2.1.length y4) 114 b1 y5).1 114 c = w10.1 114 c := fun c hc => by rw [sI_ne _ _ _ _ _ hc, sI_oth _ _ _ _ _ _ (by decide), sI_oth _ _ _ _ _ _ (by decide), sI_oth _ _ _ _ _ _ (by decide)]
    have v6 : ∀ i : Nat, i < t.2.1.length → (sI (sI (sI (sI w10 111 t.2.1.length fr) 112 t.2.1.length to) 113 t.2.1.length y4) 114 b1 y5).1 111 i = w10.1 111 i := fun i hi => by rw [sI_oth _ _ _ _ _ _ (by decide), sI_oth _ _ _ _ _ _ (by decide), sI_oth _ _ _ _ _ _ (by decide), sI_ne _ _ _ _ _ (by omega)]
    have v7 : ∀ i : Nat, i < t.2.1.length → (sI (sI (sI (sI w10 111 t.2.1.length fr) 112 t.2.1.length to) 113 t.2.1.length y4) 114 b1 y5).1 112 i = w10.1 112 i := fun i hi => by rw [sI_oth _ _ _ _ _ _ (by decide), sI_oth _ _ _ _ _ _ (by decide), sI_ne _ _ _ _ _ (by omega), sI_oth _ _ _ _ _ _ (by decide)]
    have v8 : ∀ i : Nat, i < t.2.1.length → (sI (sI (sI (sI w10 111 t.2.1.length fr) 112 t.2.1.length to) 113 t.2.1.length y4) 114 b1 y5).1 113 i = w10.1 113 i := fun i hi => by rw [sI_oth _ _ _ _ _ _ (by decide), sI_ne _ _ _ _ _ (by omega), sI_oth _ _ _ _ _ _ (by decide), sI_oth _ _ _ _ _ _ (by decide)]
    have sa := ti_add2 i_1 o1 (by omega) (by omega)
    simp only [r88]
    generalize hw12 : (sI (sI (sI (sI w10 111 t.2.1.length fr) 112 t.2.1.length to) 113 t.2.1.length y4) 114 b1 y5) = w12 at *
    have f89 : ∀ j, w12.1 89 j = w10.1 89 j := fun j => (F12 89 j rfl).1
    have f88 : ∀ j, w12.1 88 j = w10.1 88 j := fun j => (F12 88 j rfl).1
    have fin : ∀ r19 r24 : Int32, r19.toInt = (cs1 (csl t.2.1 []) (k, t.2.2.2.2.1, t.2.2.2.2.2.2, t.2.2.2.1)).1 → r24.toInt = (cs1 (csl t.2.1 []) (k, t.2.2.2.2.1, t.2.2.2.2.2.2, t.2.2.2.1)).2 → (0 ≤ (nI t.2.1.length).toInt ∧ (nI t.2.1.length).toInt < 301) ∧ (Q (nI t.2.1.length) (sI (sI w12 88 t.2.1.length r19) 89 t.2.1.length r24)) := fun r19 r24 ea eb => by
      have F : FR lsto w10 (sI (sI w12 88 t.2.1.length r19) 89 t.2.1.length r24) := FR.I (FR.I ((FR.refl lsto w10).tr F12 rfl) rfl) rfl
      have G : FR [(88, none), (89, none)] w12 (sI (sI w12 88 t.2.1.length r19) 89 t.2.1.length r24) := FR.I (FR.I (FR.refl _ w12) rfl) rfl
      have S1 : S0 w (sI (sI w12 88 t.2.1.length r19) 89 t.2.1.length r24) := ⟨(F 108 0 rfl).1.trans e0.1, (F 108 2 rfl).1.trans e0.2⟩
      have h88 : ∀ i : Nat, i < t.2.1.length → (sI (sI w12 88 t.2.1.length r19) 89 t.2.1.length r24).1 88 i = w.1 88 i := fun i hi => by
        rw [sI_oth _ _ _ _ _ _ (by decide), sI_ne _ _ _ _ _ (by omega), f88]
        exact (e8 i hi).1
      have h89 : ∀ i : Nat, i < t.2.1.length → (sI (sI w12 88 t.2.1.length r19) 89 t.2.1.length r24).1 89 i = w.1 89 i := fun i hi => by
        rw [sI_ne _ _ _ _ _ (by omega), sI_oth _ _ _ _ _ _ (by decide), f89]
        exact (e8 i hi).2.1
      have h114 : ∀ c : Nat, c < t.2.1.length → ¬ c = b1 → (sI (sI w12 88 t.2.1.length r19) 89 t.2.1.length r24).1 114 c = w.1 114 c := fun c hc hn => (G 114 c rfl).1.trans ((v5 c hn).trans (e8 c hc).2.2.2.2.2)
      refine ⟨r10, hQ _ _ (Or.inr ⟨n3, tl, xs_st X10 F (wbd_89 (wbd_88 B12 _) _) rfl, ⟨fun i d hd ho => ?_, fun oq2 q hq => ?_⟩, S1, ?_, ?_, ⟨hZ.2.2.2.2.2.2.2.2, ?_, ?_⟩, ?_⟩)⟩
      · have il := (List.getElem?_eq_some_iff.mp hd).1
        have z := hZ.2.2.2.2.1 i d hd ho
        rw [h88 i il, h89 i il]
        refine ⟨z.1, z.2.1, lkn_k z.2.2 (PRE.refl _) ((G 111 i rfl).1.trans ((v6 i il).trans (e8 i il).2.2.1)) ((G 112 i rfl).1.trans ((v7 i il).trans (e8 i il).2.2.2.1)) ((G 113 i rfl).1.trans ((v8 i il).trans (e8 i il).2.2.2.2.1)) (fun c hc => h114 c (by have := z.2.2.1 c hc; omega) (fun e => hnk i d hd ho (by rw [← e]; exact hc)))⟩
      · have bb : oq2.2.1 ≤ b1 := hq b1 (by
          show b1 ∈ t.2.2.2.1
          rw [hk]
          exact List.mem_cons_of_mem _ List.mem_cons_self)
        exact fq_k q S1.2 (fun i hi => h114 i (by have := q.2.1; omega) (by omega)) (Nat.le_refl _)
      · rw [sI_oth _ _ _ _ _ _ (by decide), sI_same]
        exact ea
      · rw [sI_same]
        exact eb
      · show CHc _ (t.2.2.2.1.drop (nxp k)) _
        rw [kne, hk, (G 113 _ rfl).1, v3]
        refine ⟨e4, ?_⟩
        rw [(G 114 _ rfl).1, v4]
        rcases h5 with ⟨el, e5⟩ | ⟨b2, el, e5, ⟨d2, hd2, _⟩, e6, ne6⟩
        · rw [el]
          exact e5
        · rw [el]
          refine ⟨e5, ?_⟩
          show _ = _
          rw [h114 b2 (List.getElem?_eq_some_iff.mp hd2).1 ne6]
          exact e6
      · rw [(G 111 _ rfl).1, (G 112 _ rfl).1, v1, v2]
        exact rgv_m (rgv_1 (by rw [kne]; decide) k14 hk hto hfr T) (PRE.one _ _)
      · rw [(G 114 _ rfl).1, v5 _ (by omega)]
        exact ev.2.2.2
    have cs : cs1 (csl t.2.1 []) (k, t.2.2.2.2.1, t.2.2.2.2.2.2, t.2.2.2.1) = (cap (smC (csl t.2.1 []) (1 + gC (csl t.2.1 []) b1) l2), mxD (csl t.2.1 []) (gD (csl t.2.1 []) b1) l2) := by
      unfold cs1
      rw [if_neg k23]
      show (cap (smC (csl t.2.1 []) (own k) t.2.2.2.1), mxD (csl t.2.1 []) 0 t.2.2.2.1 + (if k = 35 then 1 else 0)) = _
      rw [hk, smC_c, smC_c, mxD_c, mxD_c, own_s kS, ze.1, ze.2, if_pos (Int.le_refl 0), if_neg (show ¬ k = 35 by omega), Int.add_zero, Int.add_zero]
      by_cases z : gD (csl t.2.1 []) b1 ≤ 0
      · rw [if_pos z, show gD (csl t.2.1 []) b1 = 0 by omega]
      · rw [if_neg z]
    have ss : sI w12 88 t.2.1.length = sI w12 88 t.2.1.length := rfl
    rcases h5 with ⟨el, e5⟩ | ⟨b2, el, e5, ⟨d2, hd2, ed2⟩, _⟩
    · refine ⟨fun z => absurd z (by omega), fun _ => Eq.mpr (q_Rd_readGuarded_163.eq_1 _ _ _ _ _ _ _ _ _ _ _ _) ?_⟩
      rw [el] at cs
      have s0 := ti_add2 sa i_0 (by omega) (by omega)
      refine min_x s0 rfl (fun r19 e19 => ⟨r10, ⟨by omega, by omega⟩, fun z => absurd z (by omega), fun _ => ?_⟩)
      rw [tt, t4]
      refine max_x (A := gD (csl t.2.1 []) b1) (B := 0) (by rw [f89]; exact p1) i_0 (fun r26 e26 => fin r19 r26 ?_ ?_)
      · rw [cs, e19, Int.add_zero]
        rfl
      · rw [cs, e26, if_pos gd1.1]
        rfl
    · have b2l := (List.getElem?_eq_some_iff.mp hd2).1
      have s2 := hZ.2.2.2.2.1 b2 d2 hd2 (by rw [ed2]; decide)
      have g2 := gC_cap (ns := t.2.1) b2
      have t5 : y5.toInt.toNat = b2 := by omega
      have o2 : (w10.1 88 b2).toInt = gC (csl t.2.1 []) b2 := by rw [(e8 b2 b2l).1]; exact s2.1
      have p2 : (w10.1 89 b2).toInt = gD (csl t.2.1 []) b2 := by rw [(e8 b2 b2l).2.1]; exact s2.2.1
      refine ⟨fun _ => ⟨⟨by omega, by omega⟩, Eq.mpr (q_Rd_readGuarded_163.eq_1 _ _ _ _ _ _ _ _ _ _ _ _) ?_⟩, fun z => absurd (show 0 ≤ y5.toInt by omega) z⟩
      rw [el] at cs
      rw [t5]
      have s0 := ti_add2 sa o2 (by omega) (by omega)
      refine min_x s0 rfl (fun r19 e19 => ⟨r10, ⟨by omega, by omega⟩, fun _ => ⟨⟨by omega, by omega⟩, ?_⟩, fun z => absurd (show 0 ≤ y5.toInt by omega) z⟩)
      rw [tt, t4]
      refine max_x (A := gD (csl t.2.1 []) b1) (B := gD (csl t.2.1 []) b2) (by rw [f89]; exact p1) (by rw [f89]; exact p2) (fun r24 e24 => fin r19 r24 ?_ ?_)
      · rw [cs, e19]
        rfl
      · rw [cs, e24]
        rfl
/-- behind the sum or test: blocks -/
theorem c_gua {oq : OQ} {B P S : MW → (Int32 → MW → Prop) → Prop} {G : MW → Int32 → (Int32 → MW → Prop) → Prop} {w : MW} {f : Int → Int} {n k : Int} {nm : List Nm} {op jj : Nat} {s1 : ZS} {a : Int32} {Q : Int32 → MW → Prop} (hB : ∀ oq : OQ, HCm B 4 op jj f n oq nm) (hBw : ∀ (e : Int) (w : MW) (Q : Int32 → MW → Prop), ZW w f n nm op e → Q 0 w → B w Q) (hZ : ZG w f n oq nm op jj s1) (ho : op ≤ 20) (hk : k = 17 ∨ k = 19 ∨ k = 20) (ha : a.toInt = k) (h0 : s1.2.2.2.1 = []) (hA : s1.2.2.2.2 = (0, 0, 0)) (bad : CBd f n nm op (its k) s1 Q) (good : CGd f n oq nm op jj k (its k) s1 Q) : pb_Rd_readGuarded B G P S w a Q := by
  have f0 := bd_108_1 hZ.1.1.1
  have kS : isS k = true := isS_t.mpr (by omega)
  have k23 : ¬ k = 23 := by omega
  have i17 : k = 17 → its k = [(3, 0), (4, 0), (6, 0)] := fun e => by rw [e]; rfl
  have i19 : k = 19 → its k = [(2, 0), (4, 0)] := fun e => by rw [e]; rfl
  have i20 : k = 20 → its k = [(3, 0), (4, 0), (0, 21), (4, 0)] := fun e => by rw [e]; rfl
  have w94 : ∀ (w' : MW) (to y4 y5 : Int32) (r : ZR), ZW w' f n nm op r.2.1 → ZE f n (lkn nm) op (its k) s1 r → r.1 = false → (0 ≤ to.toInt ∧ to.toInt ≤ 301) → (0 ≤ y4.toInt ∧ y4.toInt < 301) → (-1 ≤ y5.toInt ∧ y5.toInt < 301) → q_Rd_readGuarded_94 B G P S a (w.1 108 1) to y4 y5 w' Q := fun w' to y4 y5 r W hE hf t0 h4 h5 => cw_94 W f0 t0 h4 h5 (fun y w2 W2 y0 y1 => bad y w2 r hE hf W2 y0 y1)
  have w71 : ∀ (w' : MW) (to y4 : Int32) (r : ZR), ZW w' f n nm op r.2.1 → ZE f n (lkn nm) op (its k) s1 r → r.1 = false → (0 ≤ to.toInt ∧ to.toInt ≤ 301) → (0 ≤ y4.toInt ∧ y4.toInt < 301) → q_Rd_readGuarded_71 B G P S a (w.1 108 1) to y4 w' Q := fun w' to y4 r W hE hf t0 h4 => Eq.mpr (q_Rd_readGuarded_71.eq_1 _ _ _ _ _ _ _ _ _ _) ⟨fun _ => cw_tk W (hBw _ w' _ W (w94 w' to y4 0 r W hE hf t0 h4 (by decide))), fun _ => cw_tk W (hBw _ w' _ W (w94 w' to y4 0 r W hE hf t0 h4 (by decide)))⟩
  have b33 : ∀ (w' : MW) (to y4 : Int32) (r : ZR), ZW w' f n nm op r.2.1 → ZE f n (lkn nm) op (its k) s1 r → r.1 = false → (0 ≤ to.toInt ∧ to.toInt ≤ 301) → (0 ≤ y4.toInt ∧ y4.toInt < 301) → ((a.toInt = 20 → (q_Rd_readGuarded_71 B G P S a (w.1 108 1) to y4 w' Q)) ∧ (¬ (a.toInt = 20) → ((¬ a.toInt = 17 → (q_Rd_readGuarded_94 B G P S a (w.1 108 1) to y4 (-1) w' Q)) ∧ (¬ (¬ a.toInt = 17) → ((¬ (w'.1 87 3).toInt = 18 → (q_Rd_readGuarded_94 B G P S a (w.1 108 1) to y4 (-1) w' Q)) ∧ (¬ (¬ (w'.1 87 3).toInt = 18) → (q_Rd_readGuarded_71 B G P S a (w.1 108 1) to y4 w' Q))))))) := fun w' to y4 r W hE hf t0 h4 => ⟨fun _ => w71 w' to y4 r W hE hf t0 h4, fun _ => ⟨fun _ => w94 w' to y4 (-1) r W hE hf t0 h4 (by decide), fun _ => ⟨fun _ => w94 w' to y4 (-1) r W hE hf t0 h4 (by decide), fun _ => w71 w' to y4 r W hE hf t0 h4⟩⟩⟩
  have w33 : ∀ (w' : MW) (r : ZR), ZW w' f n nm op r.2.1 → ZE f n (lkn nm) op (its k) s1 r → r.1 = false → q_Rd_readGuarded_33 B G P S a (w.1 108 1) w' Q := fun w' r W hE hf => Eq.mpr (q_Rd_readGuarded_33.eq_1 _ _ _ _ _ _ _ _) ⟨W.1.2.2.1, hBw _ w' _ W (b33 w' _ 0 r W hE hf (bd_108_1 W.1.1) (by decide))⟩
  have g33 : ∀ (w2 : MW) (s2 : ZS) (c1 a1 : Int) (L1 : List (Int × Int)), its k = (c1, a1) :: (4, 0) :: L1 → ZI f n (lkn nm) op c1 a1 s1 (zok s2) → s2.2.2.2.2 = s1.2.2.2.2 → s2.2.2.2.1 = s1.2.2.2.1 ++ [s2.2.1.length - 1] → ZCx s1.2.1.length s2.2.1 → ZG w2 f n oq nm op jj s2 → q_Rd_readGuarded_33 B G P S a (w.1 108 1) w2 Q := fun w2 s2 c1 a1 L1 ei hz ea ek zc Z2 => by
    have t0 := bd_108_1 Z2.1.1.1
    have k2 : s2.2.2.2.1 = [s2.2.1.length - 1] := by
      rw [ek, h0]
      rfl
    have l20 : s2.2.1.length - 1 < s2.2.1.length := Z2.2.2.2.2.2.2.2.2 _ (by rw [k2]; exact List.mem_cons_self)
    refine Eq.mpr (q_Rd_readGuarded_33.eq_1 _ _ _ _ _ _ _ _) ⟨Z2.1.1.2.2.1, hB oq s2 w2 _ Z2 (fun y5 w5 r hr o => ?_)⟩
    rcases o with ⟨s3, er, Z3, ey, et, e88, e89, nn, eN⟩ | ⟨g, W, y0, y1⟩
    · rw [er] at hr
      have pre := zg_pre Z2 hr
      have la := zi_last hr
      have l3 := Z3.1.2.2.2.2.2.1
      have k3 : s3.2.2.2.1 = [s2.2.1.length - 1, s3.2.1.length - 1] := by
        rw [et, k2]
        rfl
      have a3 : s3.2.2.2.2 = (0, 0, 0) := by
        rw [et]
        show s2.2.2.2.2 = (0, 0, 0)
        rw [ea, hA]
      have z3 : ZC s3.2.1 (s2.2.1.length - 1) := zc_pre zc.1 pre l20
      have T3 : TX s3.2.1 s1.2.1.length (s2.2.1.length - 1) 44 := tx_m pre (Nat.le_refl _) zc.2.1
      have fr1 : (w.1 108 1).toInt = (s1.2.1.length : Int) := hZ.1.2.2.2.2.1.1
      have to1 : (w2.1 108 1).toInt = ((s2.2.1.length - 1 : Nat) : Int) + 1 := by
        have a := Z2.1.2.2.2.2.1.1
        have b := zc.2.2
        omega
      have kne : nxp k = 1 := by
        rcases hk with q | q | q <;> (rw [q]; decide)
      have c5 : (w5.1 87 3).toInt = (wrd f n s3.1).1 := Z3.1.2.1.1
      have one : ∀ r1, ZE f n (lkn nm) op L1 s3 r1 → ZE f n (lkn nm) op (its k) s1 r1 := fun r1 h1 => by
        rw [ei]
        exact ZE_g hz rfl (ZE_g hr rfl h1)
      have fin2 : ∀ (w6 : MW) (s6 : ZS) (r6 : Int32) (w7 : MW) (s7 : ZS), ZG w6 f n oq nm op jj s6 → s6.2 = s3.2 → ZI f n (lkn nm) op 4 0 s6 (zok s7) → ZG w7 f n oq nm op jj s7 → r6.toInt + 1 = (s7.2.1.length : Int) → s7.2.2.2 = (s6.2.2.2.1 ++ [s7.2.1.length - 1], s6.2.2.2.2) → ZE f n (lkn nm) op (its k) s1 (zok s7) → (w7.1 114 r6.toInt.toNat).toInt = -1 → s6.2.1.length < s7.2.1.length → q_Rd_readGuarded_94 B G P S a (w.1 108 1) (w2.1 108 1) y5 r6 w7 Q := fun w6 s6 r6 w7 s7 Z6 e6 hz7 Z7 ey7 et7 hE7 eN7 nn7 => by
        have pre7 := zg_pre Z6 hz7
        have lo7 := zi_lo hz7 Z6.2.2.2.2.2.1 Z6.2.2.2.2.2.2.1 (Or.inl rfl)
        rw [show s6.2.1 = s3.2.1 by rw [e6]] at lo7 nn7
        rw [e6] at pre7 et7
        have la7 := zi_last hz7
        have l7 := Z7.1.2.2.2.2.2.1
        refine ck_94 (k := k) (e := s2.2.1.length - 1) (b1 := s3.2.1.length - 1) (l2 := [s7.2.1.length - 1]) Z7 kS k23 ha ?_ f0 t0 ?_ (zc_pre z3 pre7 (by have := pre.len; omega)) (by omega) ?_ (Or.inr ⟨_, rfl, by omega, la7.1, by rw [show s7.2.1.length - 1 = r6.toInt.toNat by omega]; exact eN7, by omega⟩) kne (by omega) (tx_m pre7 (Nat.le_refl _) T3) fr1 to1 (fun i d hd ho hm => by
          have k1 := (Z7.2.2.2.2.2.1 i d hd).1 _ hm
          by_cases q : s3.2.1.length ≤ i
          · have := lo7 i d q hd ho _ hm
            omega
          · omega) (fun y w' o => good y w7 w' s7 hE7 Z7 o)
        · rw [et7]
          exact a3
        · rw [et7]
          show s3.2.2.2.1 ++ [s7.2.1.length - 1] = _
          rw [k3]
          rfl
        · obtain ⟨d, hd, e⟩ := la.1
          exact ⟨d, pre7.get hd, e⟩
      have two : ∀ (c2 : Int) (tk : Int32) (w8 : MW), tk.toInt = c2 → (∀ r1, ZE f n (lkn nm) op [(0, c2), (4, 0)] s3 r1 → (r1.1 = false ∨ ∃ s9, r1 = zok s9) → ZE f n (lkn nm) op (its k) s1 r1) → p_Rd_take w5 tk (fun w8 => (B w8 (fun r9 w9 => (q_Rd_readGuarded_94 B G P S a (w.1 108 1) (w2.1 108 1) y5 r9 w9 Q)))) := fun c2 tk _ etk H => by
        refine ct_tk (c := c2) Z3 etk (fun w8 r hz3 hf W8 => hBw _ w8 _ W8 (w94 w8 _ y5 0 r W8 (H r (ZE_b hz3 hf) (Or.inl hf)) hf t0 ⟨by omega, by omega⟩ (by decide))) (fun w8 s8 hz3 es8 F8 Z8 => hB oq s8 w8 _ Z8 (fun r9 w9 r hr9 o9 => ?_))
        have e8 : s8.2 = s3.2 := by rw [es8]
        rcases o9 with ⟨s9, er9, Z9, ey9, et9, _, _, nn9, eN9⟩ | ⟨g9, W9, y90, y91⟩
        · rw [er9] at hr9
          exact fin2 w8 s8 r9 w9 s9 Z8 e8 hr9 Z9 ey9 et9 (H _ (ZE_g hz3 rfl (ZE_g hr9 rfl (ZE_n _ _ _ _ _))) (Or.inr ⟨s9, rfl⟩)) eN9 nn9
        · exact w94 w9 _ y5 r9 r W9 (H r (ZE_g hz3 rfl (ZE_b hr9 g9)) (Or.inl g9)) g9 t0 ⟨by omega, by omega⟩ ⟨by omega, y91⟩
      have fin1 : ZE f n (lkn nm) op (its k) s1 (zok s3) → q_Rd_readGuarded_94 B G P S a (w.1 108 1) (w2.1 108 1) y5 (-1) w5 Q := fun hE => ck_94 (k := k) (e := s2.2.1.length - 1) (b1 := s3.2.1.length - 1) (l2 := []) Z3 kS k23 ha a3 f0 t0 k3 z3 (by omega) la.1 (Or.inl ⟨rfl, by decide⟩) kne (by omega) T3 fr1 to1 (fun i d hd ho hm => by
        have k1 := (Z3.2.2.2.2.2.1 i d hd).1 _ hm
        have k2 := (List.getElem?_eq_some_iff.mp hd).1
        omega) (fun y w' o => good y w5 w' s3 hE Z3 o)
      refine ⟨fun y20 => Eq.mpr (q_Rd_readGuarded_71.eq_1 _ _ _ _ _ _ _ _ _ _) ⟨fun n20 => absurd y20 n20, fun _ => ?_⟩, fun n20 => ⟨fun n17 => fin1 ?_, fun y17 => ⟨fun n18 => fin1 ?_, fun y18 => Eq.mpr (q_Rd_readGuarded_71.eq_1 _ _ _ _ _ _ _ _ _ _) ⟨fun _ => ?_, fun z => absurd n20 z⟩⟩⟩⟩
      · have e := i20 (by omega)
        rw [ei] at e
        injection e with _ e
        injection e with _ e
        exact two 21 21 w5 (by decide) (fun r1 h1 _ => one r1 (by rw [e]; exact h1))
      · have e := i19 (by omega)
        rw [ei] at e
        injection e with _ e
        injection e with _ e
        exact one _ (by rw [e]; exact ZE_n _ _ _ _ _)
      · have e := i17 (by have := Classical.not_not.mp y17; omega)
        rw [ei] at e
        injection e with _ e
        injection e with _ e
        exact one _ (by rw [e]; exact ZE_g (ZI_6n (fun q => n18 (by omega))) rfl (ZE_n _ _ _ _ _))
      · have e := i17 (by have := Classical.not_not.mp y17; omega)
        rw [ei] at e
        injection e with _ e
        injection e with _ e
        have k18 : (wrd f n s3.1).1 = 18 := by
          have := Classical.not_not.mp y18
          omega
        refine two 18 18 w5 (by decide) (fun r1 h1 h2 => one r1 ?_)
        rw [e]
        rcases h2 with hf | ⟨s9, e9⟩
        · exact ZE_b (ZI_6 k18 h1) hf
        · rw [e9] at h1 ⊢
          exact ZE_g (ZI_6 k18 h1) rfl (ZE_n _ _ _ _ _)
    · exact b33 w5 _ y5 r W (by rw [ei]; exact ZE_g hz rfl (ZE_b hr g)) g t0 ⟨y0, y1⟩
  refine Eq.mpr (pb_Rd_readGuarded.eq_1 _ _ _ _ _ _ _) ⟨hZ.1.1.2.2.1, fun n19 => ?_, fun y19 => ?_⟩
  · have e3 : ∃ L1, its k = (3, 0) :: (4, 0) :: L1 := by
      rcases hk with q | q | q
      · exact ⟨_, i17 q⟩
      · exact absurd (ha.trans q) n19
      · exact ⟨_, i20 q⟩
    obtain ⟨L1, e3⟩ := e3
    exact ct_tst hZ ho (by decide) (fun w' r hz hf W => w33 w' r W (by rw [e3]; exact ZE_b hz hf) hf) (fun w' s' hz ea ek zc F Z => g33 w' s' 3 0 L1 e3 hz ea ek zc Z)
  · have e2 := i19 (by have := Classical.not_not.mp y19; omega)
    exact ct_sum (c := 0) hZ ho (by decide) (by rw [if_neg (by decide)]; decide) (fun w' r hz hf W => w33 w' r W (by rw [e2]; exact ZE_b hz hf) hf) (fun w' s' hz ea ek zc F Z => g33 w' s' 2 0 [] e2 hz ea ek zc Z)
