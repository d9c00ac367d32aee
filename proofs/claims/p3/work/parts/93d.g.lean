/-! the class reads if, repeat, limit -/
theorem zi_last {f : Int → Int} {n : Int} {lk : List Int → Int × Int × Int × Int} {op : Nat} {a : Int} {s s' : ZS} (h : ZI f n lk op 4 a s (zok s')) : (∃ d, s'.2.1[s'.2.1.length - 1]? = some d ∧ d.1 = 35) ∧ 0 < s'.2.1.length := by
  obtain ⟨k, h⟩ := h
  have h' : zbl f n (ZZ f n lk k) op s (zok s') := h
  unfold zbl at h'
  by_cases c : (wrd f n s.1).1 = 123 ∧ op < 20
  · rw [if_pos c] at h'
    obtain ⟨r1, _, b⟩ := h'
    by_cases g : r1.1 = true
    · rw [if_pos g] at b
      unfold znd at b
      by_cases q : r1.2.2.2.1.length = 300
      · rw [if_pos q] at b
        exact absurd (show true = false from congrArg Prod.fst b) (by decide)
      · rw [if_neg q] at b
        have e : s' = (r1.2.2.1, r1.2.2.2.1 ++ [(35, 0, 0, r1.2.2.2.2.2.1)], r1.2.2.2.2.1 + 0, s.2.2.2.1 ++ [r1.2.2.2.1.length], s.2.2.2.2) := congrArg (fun r : ZR => r.2.2) b
        rw [e]
        show (∃ d, (r1.2.2.2.1 ++ [(35, 0, 0, r1.2.2.2.2.2.1)])[(r1.2.2.2.1 ++ [(35, 0, 0, r1.2.2.2.2.2.1)]).length - 1]? = some d ∧ d.1 = 35) ∧ 0 < (r1.2.2.2.1 ++ [(35, 0, 0, r1.2.2.2.2.2.1)]).length
        rw [List.length_append, List.length_singleton, Nat.add_sub_cancel]
        refine ⟨⟨(35, 0, 0, r1.2.2.2.2.2.1), ?_, rfl⟩, by omega⟩
        rw [List.getElem?_append_right (Nat.le_refl _), Nat.sub_self]
        rfl
    · rw [if_neg g] at b
      exact absurd (show r1.1 = true from (congrArg Prod.fst b).symm) g
  · rw [if_neg c] at h'
    exact absurd (show true = false from congrArg Prod.fst h') (by decide)
theorem cw_163 {B P S : MW → (Int32 → MW → Prop) → Prop} {G : MW → Int32 → (Int32 → MW → Prop) → Prop} {w : MW} {f : Int → Int} {n : Int} {nm : List Nm} {op : Nat} {e : Int} {y4 y5 y6 a b : Int32} {Q : Int32 → MW → Prop} (h : ZW w f n nm op e) (h4 : 0 ≤ y4.toInt ∧ y4.toInt < 301) (h5 : y5.toInt < 301) (h6 : 0 ≤ y6.toInt ∧ y6.toInt < 301) (hQ : ∀ w', ZW w' f n nm op e → Q y6 w') : q_Rd_readGuarded_163 B G P S y4 y5 y6 a b y6 w Q := by
  have fin : ∀ r19 r24 : Int32, (0 ≤ y6.toInt ∧ y6.toInt < 301) ∧ (Q y6 (sI (sI w 88 y6.toInt.toNat r19) 89 y6.toInt.toNat r24)) := fun r19 r24 => by
    have F : FR [(88, none), (89, none)] w (sI (sI w 88 y6.toInt.toNat r19) 89 y6.toInt.toNat r24) := FR.I (FR.I (FR.refl _ w) rfl) rfl
    exact ⟨h6, hQ _ (zw_st h F (wbd_89 (wbd_88 h.1.1 _) _) rfl)⟩
  exact Eq.mpr (q_Rd_readGuarded_163.eq_1 _ _ _ _ _ _ _ _ _ _ _ _) (min_w (fun r19 => ⟨h6, h4, fun z => ⟨⟨z, h5⟩, max_w (fun r24 => fin r19 r24)⟩, fun _ => max_w (fun r26 => fin r19 r26)⟩))
theorem cw_94 {B P S : MW → (Int32 → MW → Prop) → Prop} {G : MW → Int32 → (Int32 → MW → Prop) → Prop} {w : MW} {f : Int → Int} {n : Int} {nm : List Nm} {op : Nat} {e : Int} {k fr to y4 y5 : Int32} {Q : Int32 → MW → Prop} (h : ZW w f n nm op e) (f0 : 0 ≤ fr.toInt ∧ fr.toInt ≤ 301) (t0 : 0 ≤ to.toInt ∧ to.toInt ≤ 301) (h4 : 0 ≤ y4.toInt ∧ y4.toInt < 301) (h5 : -1 ≤ y5.toInt ∧ y5.toInt < 301) (hQ : ∀ (y : Int32) (w' : MW), ZW w' f n nm op e → 0 ≤ y.toInt → y.toInt < 301 → Q y w') : q_Rd_readGuarded_94 B G P S k fr to y4 y5 w Q := by
  refine Eq.mpr (q_Rd_readGuarded_94.eq_1 _ _ _ _ _ _ _ _ _ _ _) (cw_mk h (fun r10 w10 r0 r1 W10 => cw_gr W10 r0 r1 f0 t0 (fun w11 W11 => ⟨W11.1.2.2.1, ⟨r0, r1⟩, W11.1.2.2.1, h4, h4, ?_⟩)))
  have F : FR [(113, none), (114, none)] w11 (sI (sI w11 113 r10.toInt.toNat y4) 114 y4.toInt.toNat y5) := FR.I (FR.I (FR.refl _ w11) rfl) rfl
  have W12 : ZW (sI (sI w11 113 r10.toInt.toNat y4) 114 y4.toInt.toNat y5) f n nm op e := zw_st W11 F (wbd_114 (wbd_113 W11.1.1 _ (by omega) (by omega)) _ h5.1 (by omega)) rfl
  exact ⟨fun z => ⟨⟨z, h5.2⟩, cw_163 W12 h4 h5.2 ⟨r0, r1⟩ (fun w' W' => hQ _ w' W' r0 r1)⟩, fun _ => cw_163 W12 h4 h5.2 ⟨r0, r1⟩ (fun w' W' => hQ _ w' W' r0 r1)⟩
/-- the node of if, repeat, limit -/
theorem ck_94 {oq : Int} {B P S : MW → (Int32 → MW → Prop) → Prop} {G : MW → Int32 → (Int32 → MW → Prop) → Prop} {w : MW} {f : Int → Int} {n k : Int} {nm : List Nm} {op jj : Nat} {t : ZS} {a fr to y4 y5 : Int32} {e b1 : Nat} {l2 : List Nat} {Q : Int32 → MW → Prop} (hZ : ZG w f n oq nm op jj t) (kS : isS k = true) (k23 : ¬ k = 23) (ha : a.toInt = k) (hA : t.2.2.2.2 = (0, 0, 0)) (f0 : 0 ≤ fr.toInt ∧ fr.toInt ≤ 301) (t0 : 0 ≤ to.toInt ∧ to.toInt ≤ 301) (hk : t.2.2.2.1 = e :: b1 :: l2) (ze : ZC t.2.1 e) (e4 : y4.toInt = (b1 : Int)) (h35 : ∃ d, t.2.1[b1]? = some d ∧ d.1 = 35) (h5 : (l2 = [] ∧ y5.toInt = -1) ∨ ∃ b2, l2 = [b2] ∧ y5.toInt = (b2 : Int) ∧ ∃ d, t.2.1[b2]? = some d ∧ d.1 = 35) (hQ : ∀ (y : Int32) (w' : MW), MKo w w' f n nm op t (k, t.2.2.2.2.1, t.2.2.2.2.2.2, t.2.2.2.1) y → Q y w') : q_Rd_readGuarded_94 B G P S a fr to y4 y5 w Q := by
  have q := isS_t.mp kS
  have l3 := hZ.1.2.2.2.2.2.1
  obtain ⟨d1, hd1, ed1⟩ := h35
  have b1l := (List.getElem?_eq_some_iff.mp hd1).1
  have s1 := hZ.2.2.2.2.1 b1 d1 hd1 (by rw [ed1]; decide)
  have g1 := gC_cap (ns := t.2.1) b1
  have gd1 := gD_b hZ.2.2.2.2.2.1 b1 b1l
  have arg0 : (0 : Int32).toInt = t.2.2.2.2.1 := by
    rw [hA]
    decide
  have y5b : -1 ≤ y5.toInt ∧ y5.toInt < 301 := by
    rcases h5 with h | ⟨b2, _, e5, d2, hd2, _⟩
    · omega
    · have := (List.getElem?_eq_some_iff.mp hd2).1
      omega
  refine Eq.mpr (q_Rd_readGuarded_94.eq_1 _ _ _ _ _ _ _ _ _ _ _) (cm_mk (d := (k, t.2.2.2.2.1, t.2.2.2.2.2.2, t.2.2.2.1)) hZ ha arg0 (show ¬ k = 31 by omega) (fun n3 w10 W10 => ?_) (fun n3 w10 X10 e8 e0 _ _ => ?_))
  · have r3 : (nI 300).toInt = 300 := by decide
    refine cw_gr W10 (by omega) (by omega) f0 t0 (fun w11 W11 => ⟨W11.1.2.2.1, ⟨by omega, by omega⟩, W11.1.2.2.1, ⟨by omega, by omega⟩, ⟨by omega, by omega⟩, ?_⟩)
    have F : FR [(113, none), (114, none)] w11 (sI (sI w11 113 (nI 300).toInt.toNat y4) 114 y4.toInt.toNat y5) := FR.I (FR.I (FR.refl _ w11) rfl) rfl
    have W12 : ZW (sI (sI w11 113 (nI 300).toInt.toNat y4) 114 y4.toInt.toNat y5) f n nm op (wrd f n t.1).2.1 := zw_st W11 F (wbd_114 (wbd_113 W11.1.1 _ (by omega) (by omega)) _ y5b.1 (by omega)) rfl
    have o : ∀ w', ZW w' f n nm op (wrd f n t.1).2.1 → Q (nI 300) w' := fun w' W' => hQ _ w' (Or.inl ⟨n3, W', by omega, by omega⟩)
    exact ⟨fun z => ⟨⟨z, y5b.2⟩, cw_163 W12 ⟨by omega, by omega⟩ y5b.2 ⟨by omega, by omega⟩ o⟩, fun _ => cw_163 W12 ⟨by omega, by omega⟩ y5b.2 ⟨by omega, by omega⟩ o⟩
  · have tl : (nI t.2.1.length).toInt = (t.2.1.length : Int) := nI_toInt (by omega)
    have tt : (nI t.2.1.length).toInt.toNat = t.2.1.length := by omega
    have t4 : y4.toInt.toNat = b1 := by omega
    have r10 : 0 ≤ (nI t.2.1.length).toInt ∧ (nI t.2.1.length).toInt < 301 := ⟨by omega, by omega⟩
    refine Eq.mpr (p_Rd_giveRange.eq_1 _ _ _ _ _) ⟨X10.1.2.2.1, r10, X10.1.2.2.1, r10, X10.1.2.2.1, r10, X10.1.2.2.1, ⟨by omega, by omega⟩, ⟨by omega, by omega⟩, ?_⟩
    rw [tt, t4]
    have F12 : FR [(111, none), (112, none), (113, none), (114, none)] w10 (sI (sI (sI (sI w10 111 t.2.1.length fr) 112 t.2.1.length to) 113 t.2.1.length y4) 114 b1 y5) := FR.I (FR.I (FR.I (FR.I (FR.refl _ w10) rfl) rfl) rfl) rfl
    have B12 : BND (sI (sI (sI (sI w10 111 t.2.1.length fr) 112 t.2.1.length to) 113 t.2.1.length y4) 114 b1 y5) := wbd_114 (wbd_113 (wbd_112 (wbd_111 X10.1.1 _ f0.1 f0.2) _ t0.1 t0.2) _ (by omega) (by omega)) _ y5b.1 (by omega)
    have r88 : ∀ j, (sI (sI w10 111 t.2.1.length fr) 112 t.2.1.length to).1 88 j = w10.1 88 j := fun j => rfl
    have o1 : (w10.1 88 b1).toInt = gC (csl t.2.1 []) b1 := by rw [(e8 b1 b1l).1]; exact s1.1
    have p1 : (w10.1 89 b1).toInt = gD (csl t.2.1 []) b1 := by rw [(e8 b1 b1l).2]; exact s1.2
    have sa := ti_add2 i_1 o1 (by omega) (by omega)
    simp only [r88]
    generalize hw12 : (sI (sI (sI (sI w10 111 t.2.1.length fr) 112 t.2.1.length to) 113 t.2.1.length y4) 114 b1 y5) = w12 at *
    have f89 : ∀ j, w12.1 89 j = w10.1 89 j := fun j => (F12 89 j rfl).1
    have f88 : ∀ j, w12.1 88 j = w10.1 88 j := fun j => (F12 88 j rfl).1
    have fin : ∀ r19 r24 : Int32, r19.toInt = (cs1 (csl t.2.1 []) (k, t.2.2.2.2.1, t.2.2.2.2.2.2, t.2.2.2.1)).1 → r24.toInt = (cs1 (csl t.2.1 []) (k, t.2.2.2.2.1, t.2.2.2.2.2.2, t.2.2.2.1)).2 → (0 ≤ (nI t.2.1.length).toInt ∧ (nI t.2.1.length).toInt < 301) ∧ (Q (nI t.2.1.length) (sI (sI w12 88 t.2.1.length r19) 89 t.2.1.length r24)) := fun r19 r24 ea eb => by
      have F : FR lsto w10 (sI (sI w12 88 t.2.1.length r19) 89 t.2.1.length r24) := FR.I (FR.I ((FR.refl lsto w10).tr F12 rfl) rfl) rfl
      refine ⟨r10, hQ _ _ (Or.inr ⟨n3, tl, xs_st X10 F (wbd_89 (wbd_88 B12 _) _) rfl, fun i hi => ?_, ?_, ?_, ?_⟩)⟩
      · rw [sI_oth _ _ _ _ _ _ (by decide), sI_ne _ _ _ _ _ (by omega), sI_ne _ _ _ _ _ (by omega), sI_oth _ _ _ _ _ _ (by decide), f88, f89]
        exact e8 i hi
      · exact ⟨(F 108 0 rfl).1.trans e0.1, (F 108 2 rfl).1.trans e0.2⟩
      · rw [sI_oth _ _ _ _ _ _ (by decide), sI_same]
        exact ea
      · rw [sI_same]
        exact eb
    have cs : cs1 (csl t.2.1 []) (k, t.2.2.2.2.1, t.2.2.2.2.2.2, t.2.2.2.1) = (cap (smC (csl t.2.1 []) (1 + gC (csl t.2.1 []) b1) l2), mxD (csl t.2.1 []) (gD (csl t.2.1 []) b1) l2) := by
      unfold cs1
      rw [if_neg k23]
      show (cap (smC (csl t.2.1 []) (own k) t.2.2.2.1), mxD (csl t.2.1 []) 0 t.2.2.2.1 + (if k = 35 then 1 else 0)) = _
      rw [hk, smC_c, smC_c, mxD_c, mxD_c, own_s kS, ze.1, ze.2, if_pos (Int.le_refl 0), if_neg (show ¬ k = 35 by omega), Int.add_zero, Int.add_zero]
      by_cases z : gD (csl t.2.1 []) b1 ≤ 0
      · rw [if_pos z, show gD (csl t.2.1 []) b1 = 0 by omega]
      · rw [if_neg z]
    have ss : sI w12 88 t.2.1.length = sI w12 88 t.2.1.length := rfl
    rcases h5 with ⟨el, e5⟩ | ⟨b2, el, e5, d2, hd2, ed2⟩
    · refine ⟨fun z => absurd z (by omega), fun _ => Eq.mpr (q_Rd_readGuarded_163.eq_1 _ _ _ _ _ _ _ _ _ _ _ _) ?_⟩
      rw [el] at cs
      have s0 := ti_add2 sa i_0 (by omega) (by omega)
      refine min_x s0 rfl (fun r19 e19 => ⟨r10, ⟨by omega, by omega⟩, fun z => absurd z (by omega), fun _ => ?_⟩)
      rw [tt, t4]
      refine max_x (A := gD (csl t.2.1 []) b1) (B := 0) (by rw [f89]; exact p1) i_0 (fun r26 e26 => fin r19 r26 ?_ ?_)
      · rw [cs, e19, Int.add_zero]
        rfl
      · rw [cs, e26, if_pos gd1.1]
        rfl
    · have b2l := (List.getElem?_eq_some_iff.mp hd2).1
      have s2 := hZ.2.2.2.2.1 b2 d2 hd2 (by rw [ed2]; decide)
      have g2 := gC_cap (ns := t.2.1) b2
      have t5 : y5.toInt.toNat = b2 := by omega
      have o2 : (w10.1 88 b2).toInt = gC (csl t.2.1 []) b2 := by rw [(e8 b2 b2l).1]; exact s2.1
      have p2 : (w10.1 89 b2).toInt = gD (csl t.2.1 []) b2 := by rw [(e8 b2 b2l).2]; exact s2.2
      refine ⟨fun _ => ⟨⟨by omega, by omega⟩, Eq.mpr (q_Rd_readGuarded_163.eq_1 _ _ _ _ _ _ _ _ _ _ _ _) ?_⟩, fun z => absurd (show 0 ≤ y5.toInt by omega) z⟩
      rw [el] at cs
      rw [t5]
      have s0 := ti_add2 sa o2 (by omega) (by omega)
      refine min_x s0 rfl (fun r19 e19 => ⟨r10, ⟨by omega, by omega⟩, fun _ => ⟨⟨by omega, by omega⟩, ?_⟩, fun z => absurd (show 0 ≤ y5.toInt by omega) z⟩)
      rw [tt, t4]
      refine max_x (A := gD (csl t.2.1 []) b1) (B := gD (csl t.2.1 []) b2) (by rw [f89]; exact p1) (by rw [f89]; exact p2) (fun r24 e24 => fin r19 r24 ?_ ?_)
      · rw [cs, e19]
        rfl
      · rw [cs, e24]
        rfl
/-- behind the sum or test: blocks -/
theorem c_gua {oq : Int} {B P S : MW → (Int32 → MW → Prop) → Prop} {G : MW → Int32 → (Int32 → MW → Prop) → Prop} {w : MW} {f : Int → Int} {n k : Int} {nm : List Nm} {op jj : Nat} {s1 : ZS} {a : Int32} {Q : Int32 → MW → Prop} (hB : HCm B 4 op jj f n oq nm) (hBw : ∀ (e : Int) (w : MW) (Q : Int32 → MW → Prop), ZW w f n nm op e → Q 0 w → B w Q) (hZ : ZG w f n oq nm op jj s1) (ho : op ≤ 20) (hk : k = 17 ∨ k = 19 ∨ k = 20) (ha : a.toInt = k) (h0 : s1.2.2.2.1 = []) (hA : s1.2.2.2.2 = (0, 0, 0)) (bad : CBd f n nm op (its k) s1 Q) (good : CGd f n oq nm op jj k (its k) s1 Q) : pb_Rd_readGuarded B G P S w a Q := by
  have f0 := bd_108_1 hZ.1.1.1
  have kS : isS k = true := isS_t.mpr (by omega)
  have k23 : ¬ k = 23 := by omega
  have i17 : k = 17 → its k = [(3, 0), (4, 0), (6, 0)] := fun e => by rw [e]; rfl
  have i19 : k = 19 → its k = [(2, 0), (4, 0)] := fun e => by rw [e]; rfl
  have i20 : k = 20 → its k = [(3, 0), (4, 0), (0, 21), (4, 0)] := fun e => by rw [e]; rfl
  have w94 : ∀ (w' : MW) (to y4 y5 : Int32) (r : ZR), ZW w' f n nm op r.2.1 → ZE f n (lkn nm) op (its k) s1 r → r.1 = false → (0 ≤ to.toInt ∧ to.toInt ≤ 301) → (0 ≤ y4.toInt ∧ y4.toInt < 301) → (-1 ≤ y5.toInt ∧ y5.toInt < 301) → q_Rd_readGuarded_94 B G P S a (w.1 108 1) to y4 y5 w' Q := fun w' to y4 y5 r W hE hf t0 h4 h5 => cw_94 W f0 t0 h4 h5 (fun y w2 W2 y0 y1 => bad y w2 r hE hf W2 y0 y1)
  have w71 : ∀ (w' : MW) (to y4 : Int32) (r : ZR), ZW w' f n nm op r.2.1 → ZE f n (lkn nm) op (its k) s1 r → r.1 = false → (0 ≤ to.toInt ∧ to.toInt ≤ 301) → (0 ≤ y4.toInt ∧ y4.toInt < 301) → q_Rd_readGuarded_71 B G P S a (w.1 108 1) to y4 w' Q := fun w' to y4 r W hE hf t0 h4 => Eq.mpr (q_Rd_readGuarded_71.eq_1 _ _ _ _ _ _ _ _ _ _) ⟨fun _ => cw_tk W (hBw _ w' _ W (w94 w' to y4 0 r W hE hf t0 h4 (by decide))), fun _ => cw_tk W (hBw _ w' _ W (w94 w' to y4 0 r W hE hf t0 h4 (by decide)))⟩
  have b33 : ∀ (w' : MW) (to y4 : Int32) (r : ZR), ZW w' f n nm op r.2.1 → ZE f n (lkn nm) op (its k) s1 r → r.1 = false → (0 ≤ to.toInt ∧ to.toInt ≤ 301) → (0 ≤ y4.toInt ∧ y4.toInt < 301) → ((a.toInt = 20 → (q_Rd_readGuarded_71 B G P S a (w.1 108 1) to y4 w' Q)) ∧ (¬ (a.toInt = 20) → ((¬ a.toInt = 17 → (q_Rd_readGuarded_94 B G P S a (w.1 108 1) to y4 (-1) w' Q)) ∧ (¬ (¬ a.toInt = 17) → ((¬ (w'.1 87 3).toInt = 18 → (q_Rd_readGuarded_94 B G P S a (w.1 108 1) to y4 (-1) w' Q)) ∧ (¬ (¬ (w'.1 87 3).toInt = 18) → (q_Rd_readGuarded_71 B G P S a (w.1 108 1) to y4 w' Q))))))) := fun w' to y4 r W hE hf t0 h4 => ⟨fun _ => w71 w' to y4 r W hE hf t0 h4, fun _ => ⟨fun _ => w94 w' to y4 (-1) r W hE hf t0 h4 (by decide), fun _ => ⟨fun _ => w94 w' to y4 (-1) r W hE hf t0 h4 (by decide), fun _ => w71 w' to y4 r W hE hf t0 h4⟩⟩⟩
  have w33 : ∀ (w' : MW) (r : ZR), ZW w' f n nm op r.2.1 → ZE f n (lkn nm) op (its k) s1 r → r.1 = false → q_Rd_readGuarded_33 B G P S a (w.1 108 1) w' Q := fun w' r W hE hf => Eq.mpr (q_Rd_readGuarded_33.eq_1 _ _ _ _ _ _ _ _) ⟨W.1.2.2.1, hBw _ w' _ W (b33 w' _ 0 r W hE hf (bd_108_1 W.1.1) (by decide))⟩
  have g33 : ∀ (w2 : MW) (s2 : ZS) (c1 a1 : Int) (L1 : List (Int × Int)), its k = (c1, a1) :: (4, 0) :: L1 → ZI f n (lkn nm) op c1 a1 s1 (zok s2) → s2.2.2.2.2 = s1.2.2.2.2 → s2.2.2.2.1 = s1.2.2.2.1 ++ [s2.2.1.length - 1] → ZC s2.2.1 (s2.2.1.length - 1) → ZG w2 f n oq nm op jj s2 → q_Rd_readGuarded_33 B G P S a (w.1 108 1) w2 Q := fun w2 s2 c1 a1 L1 ei hz ea ek zc Z2 => by
    have t0 := bd_108_1 Z2.1.1.1
    have k2 : s2.2.2.2.1 = [s2.2.1.length - 1] := by
      rw [ek, h0]
      rfl
    have l20 : s2.2.1.length - 1 < s2.2.1.length := Z2.2.2.2.2.2.2.2.2 _ (by rw [k2]; exact List.mem_cons_self)
    refine Eq.mpr (q_Rd_readGuarded_33.eq_1 _ _ _ _ _ _ _ _) ⟨Z2.1.1.2.2.1, hB s2 w2 _ Z2 (fun y5 w5 r hr o => ?_)⟩
    rcases o with ⟨s3, er, Z3, ey, et, e88, e89, nn⟩ | ⟨g, W, y0, y1⟩
    · rw [er] at hr
      have pre := zg_pre Z2 hr
      have la := zi_last hr
      have l3 := Z3.1.2.2.2.2.2.1
      have k3 : s3.2.2.2.1 = [s2.2.1.length - 1, s3.2.1.length - 1] := by
        rw [et, k2]
        rfl
      have a3 : s3.2.2.2.2 = (0, 0, 0) := by
        rw [et]
        show s2.2.2.2.2 = (0, 0, 0)
        rw [ea, hA]
      have z3 : ZC s3.2.1 (s2.2.1.length - 1) := zc_pre zc pre l20
      have c5 : (w5.1 87 3).toInt = (wrd f n s3.1).1 := Z3.1.2.1.1
      have one : ∀ r1, ZE f n (lkn nm) op L1 s3 r1 → ZE f n (lkn nm) op (its k) s1 r1 := fun r1 h1 => by
        rw [ei]
        exact ZE_g hz rfl (ZE_g hr rfl h1)
      have fin2 : ∀ (w6 : MW) (s6 : ZS) (r6 : Int32) (w7 : MW) (s7 : ZS), ZG w6 f n oq nm op jj s6 → s6.2 = s3.2 → ZI f n (lkn nm) op 4 0 s6 (zok s7) → ZG w7 f n oq nm op jj s7 → r6.toInt + 1 = (s7.2.1.length : Int) → s7.2.2.2 = (s6.2.2.2.1 ++ [s7.2.1.length - 1], s6.2.2.2.2) → ZE f n (lkn nm) op (its k) s1 (zok s7) → q_Rd_readGuarded_94 B G P S a (w.1 108 1) (w2.1 108 1) y5 r6 w7 Q := fun w6 s6 r6 w7 s7 Z6 e6 hz7 Z7 ey7 et7 hE7 => by
        have pre7 := zg_pre Z6 hz7
        rw [e6] at pre7 et7
        have la7 := zi_last hz7
        have l7 := Z7.1.2.2.2.2.2.1
        refine ck_94 (k := k) (e := s2.2.1.length - 1) (b1 := s3.2.1.length - 1) (l2 := [s7.2.1.length - 1]) Z7 kS k23 ha ?_ f0 t0 ?_ (zc_pre z3 pre7 (by have := pre.len; omega)) (by omega) ?_ (Or.inr ⟨_, rfl, by omega, la7.1⟩) (fun y w' o => good y w7 w' s7 hE7 Z7 o)
        · rw [et7]
          exact a3
        · rw [et7]
          show s3.2.2.2.1 ++ [s7.2.1.length - 1] = _
          rw [k3]
          rfl
        · obtain ⟨d, hd, e⟩ := la.1
          exact ⟨d, pre7.get hd, e⟩
      have two : ∀ (c2 : Int) (tk : Int32) (w8 : MW), tk.toInt = c2 → (∀ r1, ZE f n (lkn nm) op [(0, c2), (4, 0)] s3 r1 → (r1.1 = false ∨ ∃ s9, r1 = zok s9) → ZE f n (lkn nm) op (its k) s1 r1) → p_Rd_take w5 tk (fun w8 => (B w8 (fun r9 w9 => (q_Rd_readGuarded_94 B G P S a (w.1 108 1) (w2.1 108 1) y5 r9 w9 Q)))) := fun c2 tk _ etk H => by
        refine ct_tk (c := c2) Z3 etk (fun w8 r hz3 hf W8 => hBw _ w8 _ W8 (w94 w8 _ y5 0 r W8 (H r (ZE_b hz3 hf) (Or.inl hf)) hf t0 ⟨by omega, by omega⟩ (by decide))) (fun w8 s8 hz3 es8 F8 Z8 => hB s8 w8 _ Z8 (fun r9 w9 r hr9 o9 => ?_))
        have e8 : s8.2 = s3.2 := by rw [es8]
        rcases o9 with ⟨s9, er9, Z9, ey9, et9, _, _, _⟩ | ⟨g9, W9, y90, y91⟩
        · rw [er9] at hr9
          exact fin2 w8 s8 r9 w9 s9 Z8 e8 hr9 Z9 ey9 et9 (H _ (ZE_g hz3 rfl (ZE_g hr9 rfl (ZE_n _ _ _ _ _))) (Or.inr ⟨s9, rfl⟩))
        · exact w94 w9 _ y5 r9 r W9 (H r (ZE_g hz3 rfl (ZE_b hr9 g9)) (Or.inl g9)) g9 t0 ⟨by omega, by omega⟩ ⟨by omega, y91⟩
      have fin1 : ZE f n (lkn nm) op (its k) s1 (zok s3) → q_Rd_readGuarded_94 B G P S a (w.1 108 1) (w2.1 108 1) y5 (-1) w5 Q := fun hE => ck_94 (k := k) (e := s2.2.1.length - 1) (b1 := s3.2.1.length - 1) (l2 := []) Z3 kS k23 ha a3 f0 t0 k3 z3 (by omega) la.1 (Or.inl ⟨rfl, by decide⟩) (fun y w' o => good y w5 w' s3 hE Z3 o)
      refine ⟨fun y20 => Eq.mpr (q_Rd_readGuarded_71.eq_1 _ _ _ _ _ _ _ _ _ _) ⟨fun n20 => absurd y20 n20, fun _ => ?_⟩, fun n20 => ⟨fun n17 => fin1 ?_, fun y17 => ⟨fun n18 => fin1 ?_, fun y18 => Eq.mpr (q_Rd_readGuarded_71.eq_1 _ _ _ _ _ _ _ _ _ _) ⟨fun _ => ?_, fun z => absurd n20 z⟩⟩⟩⟩
      · have e := i20 (by omega)
        rw [ei] at e
        injection e with _ e
        injection e with _ e
        exact two 21 21 w5 (by decide) (fun r1 h1 _ => one r1 (by rw [e]; exact h1))
      · have e := i19 (by omega)
        rw [ei] at e
        injection e with _ e
        injection e with _ e
        exact one _ (by rw [e]; exact ZE_n _ _ _ _ _)
      · have e := i17 (by have := Classical.not_not.mp y17; omega)
        rw [ei] at e
        injection e with _ e
        injection e with _ e
        exact one _ (by rw [e]; exact ZE_g (ZI_6n (fun q => n18 (by omega))) rfl (ZE_n _ _ _ _ _))
      · have e := i17 (by have := Classical.not_not.mp y17; omega)
        rw [ei] at e
        injection e with _ e
        injection e with _ e
        have k18 : (wrd f n s3.1).1 = 18 := by
          have := Classical.not_not.mp y18
          omega
        refine two 18 18 w5 (by decide) (fun r1 h1 h2 => one r1 ?_)
        rw [e]
        rcases h2 with hf | ⟨s9, e9⟩
        · exact ZE_b (ZI_6 k18 h1) hf
        · rw [e9] at h1 ⊢
          exact ZE_g (ZI_6 k18 h1) rfl (ZE_n _ _ _ _ _)
    · exact b33 w5 _ y5 r W (by rw [ei]; exact ZE_g hz rfl (ZE_b hr g)) g t0 ⟨y0, y1⟩
  refine Eq.mpr (pb_Rd_readGuarded.eq_1 _ _ _ _ _ _ _) ⟨hZ.1.1.2.2.1, fun n19 => ?_, fun y19 => ?_⟩
  · have e3 : ∃ L1, its k = (3, 0) :: (4, 0) :: L1 := by
      rcases hk with q | q | q
      · exact ⟨_, i17 q⟩
      · exact absurd (ha.trans q) n19
      · exact ⟨_, i20 q⟩
    obtain ⟨L1, e3⟩ := e3
    exact ct_tst hZ ho (by decide) (fun w' r hz hf W => w33 w' r W (by rw [e3]; exact ZE_b hz hf) hf) (fun w' s' hz ea ek zc F Z => g33 w' s' 3 0 L1 e3 hz ea ek zc Z)
  · have e2 := i19 (by have := Classical.not_not.mp y19; omega)
    exact ct_sum (c := 0) hZ ho (by decide) (by rw [if_neg (by decide)]; decide) (fun w' r hz hf W => w33 w' r W (by rw [e2]; exact ZE_b hz hf) hf) (fun w' s' hz ea ek zc F Z => g33 w' s' 2 0 [] e2 hz ea ek zc Z)
/-! the class reads par, and a statement -/
theorem cw_chg {w : MW} {f : Int → Int} {n : Int} {nm : List Nm} {op : Nat} {e : Int} {a : Int32} {Q : Int32 → MW → Prop} (h : ZW w f n nm op e) (hQ : ∀ (y : Int32) (w' : MW), ZW w' f n nm op e → 0 ≤ y.toInt → y.toInt < 301 → Q y w') : p_Rd_readChange w a Q :=
  Eq.mpr (p_Rd_readChange.eq_1 _ _ _) (cw_nm h ⟨h.1.2.2.1, cw_lev (m := 1) h (by decide) (by decide) (fun y => ⟨fun z => absurd z (by decide), fun _ => cw_38 h (bd_108_1 h.1.1) hQ⟩)⟩)
theorem cw_pau {w : MW} {f : Int → Int} {n : Int} {nm : List Nm} {op : Nat} {e : Int} {a : Int32} {Q : Int32 → MW → Prop} (h : ZW w f n nm op e) (hQ : ∀ (y : Int32) (w' : MW), ZW w' f n nm op e → 0 ≤ y.toInt → y.toInt < 301 → Q y w') : p_Rd_readPause w a Q := by
  have t : q_Rd_readPause_33 a (w.1 108 1) w Q := Eq.mpr (q_Rd_readPause_33.eq_1 _ _ _ _) ⟨h.1.2.2.1, cw_tl h (bd_108_1 h.1.1) (bd_108_1 h.1.1) hQ⟩
  exact Eq.mpr (p_Rd_readPause.eq_1 _ _ _) ⟨h.1.2.2.1, fun _ => cw_lev (m := 0) h (by decide) (by decide) (fun y => t), fun _ => cw_lev (m := 1) h (by decide) (by decide) (fun y => cw_de h t)⟩
theorem cw_sho {w : MW} {f : Int → Int} {n : Int} {nm : List Nm} {op : Nat} {e : Int} {a : Int32} {Q : Int32 → MW → Prop} (h : ZW w f n nm op e) (hQ : ∀ (y : Int32) (w' : MW), ZW w' f n nm op e → 0 ≤ y.toInt → y.toInt < 301 → Q y w') : p_Rd_readShort w a Q := by
  have t : ∀ b : Int32, (a.toInt = 23 → b.toInt < 0) → q_Rd_readShort_87 a b w Q := fun b hb => cw_87 h (fun z => Or.inl (hb z)) hQ
  refine Eq.mpr (p_Rd_readShort.eq_1 _ _ _) ⟨fun _ => ⟨fun n23 => ⟨fun _ => t 0 (fun z => absurd z n23), fun _ => ⟨fun _ => fl_w h (cw_tk h (t _ (fun z => absurd z n23))), fun _ => ⟨fun _ => fl_w h (cw_tk h (t _ (fun z => absurd z n23))), fun _ => ⟨fun _ => cw_tk h (t _ (fun z => absurd z n23)), fun _ => fl_w h (cw_tk h (t _ (fun z => absurd z n23)))⟩⟩⟩⟩, fun _ => cw_nm h (t _ (fun _ => by decide))⟩, fun _ => cw_nm h (t _ (fun _ => by decide))⟩
theorem cw_gua {B P S : MW → (Int32 → MW → Prop) → Prop} {G : MW → Int32 → (Int32 → MW → Prop) → Prop} {w : MW} {f : Int → Int} {n : Int} {nm : List Nm} {op : Nat} {e : Int} {a : Int32} {Q : Int32 → MW → Prop} (hBw : ∀ (e : Int) (w : MW) (Q : Int32 → MW → Prop), ZW w f n nm op e → Q 0 w → B w Q) (h : ZW w f n nm op e) (hQ : ∀ (y : Int32) (w' : MW), ZW w' f n nm op e → 0 ≤ y.toInt → y.toInt < 301 → Q y w') : pb_Rd_readGuarded B G P S w a Q := by
  have f0 := bd_108_1 h.1.1
  have w94 : ∀ y5 : Int32, (-1 ≤ y5.toInt ∧ y5.toInt < 301) → q_Rd_readGuarded_94 B G P S a (w.1 108 1) (w.1 108 1) 0 y5 w Q := fun y5 h5 => cw_94 h f0 f0 (by decide) h5 hQ
  have w71 : q_Rd_readGuarded_71 B G P S a (w.1 108 1) (w.1 108 1) 0 w Q := Eq.mpr (q_Rd_readGuarded_71.eq_1 _ _ _ _ _ _ _ _ _ _) ⟨fun _ => cw_tk h (hBw _ w _ h (w94 0 (by decide))), fun _ => cw_tk h (hBw _ w _ h (w94 0 (by decide)))⟩
  have w33 : q_Rd_readGuarded_33 B G P S a (w.1 108 1) w Q := Eq.mpr (q_Rd_readGuarded_33.eq_1 _ _ _ _ _ _ _ _) ⟨h.1.2.2.1, hBw _ w _ h ⟨fun _ => w71, fun _ => ⟨fun _ => w94 (-1) (by decide), fun _ => ⟨fun _ => w94 (-1) (by decide), fun _ => w71⟩⟩⟩⟩
  exact Eq.mpr (pb_Rd_readGuarded.eq_1 _ _ _ _ _ _ _) ⟨h.1.2.2.1, fun _ => cw_lev (m := 0) h (by decide) (by decide) (fun y => w33), fun _ => cw_lev (m := 1) h (by decide) (by decide) (fun y => cw_de h w33)⟩
theorem cw_par {B P S : MW → (Int32 → MW → Prop) → Prop} {G : MW → Int32 → (Int32 → MW → Prop) → Prop} {w : MW} {f : Int → Int} {n : Int} {nm : List Nm} {op : Nat} {e : Int} {Q : Int32 → MW → Prop} (hBw : ∀ (e : Int) (w : MW) (Q : Int32 → MW → Prop), ZW w f n nm op e → Q 0 w → B w Q) (h : ZW w f n nm op e) (hQ : ∀ (y : Int32) (w' : MW), ZW w' f n nm op e → 0 ≤ y.toInt → y.toInt < 301 → Q y w') : pb_Rd_readPar B G P S w Q := by
  have fu : (1000 : Nat) < FU := fu_lt (by decide)
  have e0 := h.2.2.1
  have ew := h.2.1
  refine Eq.mpr (pb_Rd_readPar.eq_1 _ _ _ _ _ _) (hBw _ w _ h ⟨by decide, by decide, ?_⟩)
  have out : ∀ z u : Int32, p_Rd_makeNode w 16 0 (fun r16 w16 => ((w16.2.2 87 1 = some 108) ∧ ((0 ≤ r16.toInt ∧ r16.toInt < 301) ∧ ((0 ≤ r16.toInt ∧ r16.toInt < 301) ∧ ((0 ≤ r16.toInt ∧ r16.toInt < 301) ∧ (Q r16 (sI (sI (sI w16 113 r16.toInt.toNat 0) 88 r16.toInt.toNat z) 89 r16.toInt.toNat u))))))) := fun z u => cw_mk h (fun r16 w16 r0 r1 W16 => by
    have F : FR [(88, none), (89, none), (113, none)] w16 (sI (sI (sI w16 113 r16.toInt.toNat 0) 88 r16.toInt.toNat z) 89 r16.toInt.toNat u) := FR.I (FR.I (FR.I (FR.refl _ w16) rfl) rfl) rfl
    exact ⟨W16.1.2.2.1, ⟨r0, r1⟩, ⟨r0, r1⟩, ⟨r0, r1⟩, hQ _ _ (zw_st W16 F (wbd_89 (wbd_88 (wbd_113 W16.1.1 _ (by decide) (by decide)) _) _) rfl) r0 r1⟩)
  generalize hFU : FU = F0 at *
  cases F0 with
  | zero => omega
  | succ F0 =>
    rw [q_Rd_readPar_27.eq_2]
    exact ⟨fun _ => out _ _, fun _ => ⟨fun _ => out _ _, fun q => absurd (show 0 ≤ (w.1 87 9).toInt by omega) q⟩⟩
/-- par: further blocks -/
theorem cp_27 {oq : Int} {B P S : MW → (Int32 → MW → Prop) → Prop} {G : MW → Int32 → (Int32 → MW → Prop) → Prop} {f : Int → Int} {n : Int} {nm : List Nm} {op jj : Nat} {fi : Int32} {E : Int32 → Int32 → MW → Prop} {Q : Int32 → MW → Prop} {R : ZR → Prop} (hB : HCm B 4 op jj f n oq nm) (hb : ∀ (z u : Int32) (w' : MW) (r : ZR), R r → r.1 = false → ZW w' f n nm op r.2.1 → E z u w') (hE : ∀ (z u : Int32) (w' : MW) (s' : ZS), R (zok s') → ZG w' f n oq nm op jj s' → z.toInt = cap (smC (csl s'.2.1 []) 1 s'.2.2.2.1) → u.toInt = mxD (csl s'.2.1 []) 0 s'.2.2.2.1 → s'.2.2.2.2 = (0, 0, 0) → E z u w') (m : Nat) : ∀ (y z u i : Int32) (w : MW) (s : ZS), ZG w f n oq nm op jj s → 0 ≤ y.toInt → y.toInt ≤ 300 → z.toInt = cap (smC (csl s.2.1 []) 1 s.2.2.2.1) → u.toInt = mxD (csl s.2.1 []) 0 s.2.2.2.1 → s.2.2.2.2 = (0, 0, 0) → 1 ≤ i.toInt → i.toInt ≤ (s.2.1.length : Int) → (∀ r, ZI f n (lkn nm) op 7 0 s r → (r.1 = false ∨ ∃ s', r = zok s') → R r) → 302 - s.2.1.length < m → q_Rd_readPar_27 B G P S fi E Q m y z u i w := by
  induction m with
  | zero => intros; omega
  | succ m ih =>
    intro y z u i w s hZ y0 y1 hz hu hA i0 i1 hR hm
    have X := hZ.1
    have l3 := X.2.2.2.2.2.1
    have hw := X.2.2.2.1
    have c3 : (w.1 87 3).toInt = (wrd f n s.1).1 := X.2.1.1
    rw [q_Rd_readPar_27.eq_2, c3]
    refine ⟨fun q => by omega, fun _ => ⟨fun q => by omega, fun _ => ⟨fun q => by omega, fun _ => ⟨fun k => hE z u w s (hR _ (ZI_7n k) (Or.inr ⟨s, rfl⟩)) hZ hz hu hA, fun k => Eq.mpr (q_Rd_readPar_56.eq_1 _ _ _ _ _ _ _ _ _ _ _ _ _) ?_⟩⟩⟩⟩
    have k := Classical.not_not.mp k
    refine hB s w _ hZ (fun r7 w7 r hr o => ?_)
    rcases o with ⟨s', er, Z', ey, et, e88, e89, nn⟩ | ⟨g, W, r0, r1⟩
    · rw [er] at hr
      have l4 := Z'.1.2.2.2.2.2.1
      have pre := zg_pre hZ hr
      have kk : s'.2.2.2.1 = s.2.2.2.1 ++ [s'.2.1.length - 1] := by rw [et]
      have a2 : s'.2.2.2.2 = (0, 0, 0) := by
        rw [et]
        exact hA
      have kp := kid_pre pre (l := s.2.2.2.1) hZ.2.2.2.2.2.2.2.2
      have gb := gC_cap (ns := s'.2.1) (s'.2.1.length - 1)
      have s0 := smC_0 (acc := csl s.2.1 []) (fun i => (gC_cap i).1) s.2.2.2.1 1 (by decide)
      have cb := cap_b s0
      have F : FR [(114, none)] w7 (sI w7 114 y.toInt.toNat r7) := FR.I (FR.refl _ w7) rfl
      have X2 := xs_st Z'.1 F (wbd_114 Z'.1.1.1 _ (by omega) (by omega)) rfl
      have Z2 := zg_x Z' X2 (fr_89 F rfl _) (s0_fr F rfl) s'.2.2.2.2
      have f89 : (sI w7 114 y.toInt.toNat r7).1 89 r7.toInt.toNat = w7.1 89 r7.toInt.toNat := (F 89 _ rfl).1
      have sa := ti_add2 hz e88 (by omega) (by omega)
      have ii := ti_add2 (Eq.refl i.toInt) i_1 (by omega) (by omega)
      refine ⟨Z'.1.1.2.2.1, ⟨y0, by omega⟩, ⟨by omega, by omega⟩, ?_⟩
      generalize sI w7 114 y.toInt.toNat r7 = w8 at *
      refine min_x (B := cap (smC (csl s'.2.1 []) 1 s'.2.2.2.1)) sa ?_ (fun r12 e12 => ⟨⟨by omega, by omega⟩, max_x (B := gD (csl s'.2.1 []) (s'.2.1.length - 1)) hu (by rw [f89]; exact e89) (fun r14 e14 => ?_)⟩)
      · rw [kk, smC_1, (kp 1).1, cap_i gb.1]
      · refine ih r7 r12 r14 _ w8 s' Z2 (by omega) (by omega) e12 ?_ a2 (by omega) (by omega) (fun r h7 ho => hR r (ZI_7 k (by
          rcases ho with hf | ⟨s2, e2⟩
          · exact ZE_g hr rfl (ZE_b h7 hf)
          · rw [e2] at h7 ⊢
            exact ZE_g hr rfl (ZE_g h7 rfl (ZE_n _ _ _ _ _)))) ho) (by omega)
        rw [kk, mxD_a, (kp 0).2]
        exact e14
    · have hf := hR r (ZI_7 k (ZE_b hr g)) (Or.inl g)
      have F : FR [(114, none)] w7 (sI w7 114 y.toInt.toNat r7) := FR.I (FR.refl _ w7) rfl
      have W2 := zw_st W F (wbd_114 W.1.1 _ (by omega) (by omega)) rfl
      refine ⟨W.1.2.2.1, ⟨y0, by omega⟩, ⟨r0, r1⟩, min_w (fun r11 => ⟨⟨r0, r1⟩, max_w (fun r13 => ?_)⟩)⟩
      have e0 := W2.2.2.1
      have ew := W2.2.1
      cases m with
      | zero => omega
      | succ m =>
        rw [q_Rd_readPar_27.eq_2]
        exact ⟨fun _ => hb _ _ _ r hf g W2, fun _ => ⟨fun _ => hb _ _ _ r hf g W2, fun q => absurd (show 0 ≤ ((sI w7 114 y.toInt.toNat r7).1 87 9).toInt by omega) q⟩⟩
theorem c_par {oq : Int} {B P S : MW → (Int32 → MW → Prop) → Prop} {G : MW → Int32 → (Int32 → MW → Prop) → Prop} {w : MW} {f : Int → Int} {n : Int} {nm : List Nm} {op jj : Nat} {s1 : ZS} {Q : Int32 → MW → Prop} (hB : HCm B 4 op jj f n oq nm) (hZ : ZG w f n oq nm op jj s1) (h0 : s1.2.2.2.1 = []) (hA : s1.2.2.2.2 = (0, 0, 0)) (bad : CBd f n nm op [(4, 0), (4, 0), (7, 0)] s1 Q) (good : CGd f n oq nm op jj 16 [(4, 0), (4, 0), (7, 0)] s1 Q) : pb_Rd_readPar B G P S w Q := by
  have fu : (1000 : Nat) < FU := fu_lt (by decide)
  have out : ∀ (fi z u : Int32) (w' : MW) (r : ZR), ZE f n (lkn nm) op [(4, 0), (4, 0), (7, 0)] s1 r → r.1 = false → ZW w' f n nm op r.2.1 → 0 ≤ fi.toInt → fi.toInt < 301 → p_Rd_makeNode w' 16 0 (fun r16 w16 => ((w16.2.2 87 1 = some 108) ∧ ((0 ≤ r16.toInt ∧ r16.toInt < 301) ∧ ((0 ≤ r16.toInt ∧ r16.toInt < 301) ∧ ((0 ≤ r16.toInt ∧ r16.toInt < 301) ∧ (Q r16 (sI (sI (sI w16 113 r16.toInt.toNat fi) 88 r16.toInt.toNat z) 89 r16.toInt.toNat u))))))) := fun fi z u w' r hE hf W f0 f1 => cw_mk W (fun r16 w16 r0 r1 W16 => by
    have F : FR [(88, none), (89, none), (113, none)] w16 (sI (sI (sI w16 113 r16.toInt.toNat fi) 88 r16.toInt.toNat z) 89 r16.toInt.toNat u) := FR.I (FR.I (FR.I (FR.refl _ w16) rfl) rfl) rfl
    exact ⟨W16.1.2.2.1, ⟨r0, r1⟩, ⟨r0, r1⟩, ⟨r0, r1⟩, bad _ _ r hE hf (zw_st W16 F (wbd_89 (wbd_88 (wbd_113 W16.1.1 _ (by omega) (by omega)) _) _) rfl) r0 r1⟩)
  refine Eq.mpr (pb_Rd_readPar.eq_1 _ _ _ _ _ _) (hB s1 w _ hZ (fun r1 w1 r hr o => ?_))
  rcases o with ⟨s2, er, Z2, ey, et, e88, e89, nn⟩ | ⟨g, W, r0, rr1⟩
  · rw [er] at hr
    have l2 := Z2.1.2.2.2.2.2.1
    have hw := Z2.1.2.2.2.1
    have k2 : s2.2.2.2.1 = [s2.2.1.length - 1] := by
      rw [et, h0]
      rfl
    have a2 : s2.2.2.2.2 = (0, 0, 0) := by
      rw [et]
      exact hA
    have gb2 := gC_cap (ns := s2.2.1) (s2.2.1.length - 1)
    have sa2 := ti_add2 i_1 e88 (by omega) (by omega)
    have fi0 : 0 ≤ r1.toInt ∧ r1.toInt < 301 := ⟨by omega, by omega⟩
    refine ⟨fi0, fi0, ?_⟩
    have gd2 := gD_b Z2.2.2.2.2.2.1 (s2.2.1.length - 1) (by omega)
    generalize hFU : FU = F0 at *
    cases F0 with
    | zero => omega
    | succ F0 =>
      rw [q_Rd_readPar_27.eq_2]
      refine ⟨fun q => absurd q (by decide), fun _ => ⟨fun q => by omega, fun _ => ⟨fun _ => Eq.mpr (q_Rd_readPar_56.eq_1 _ _ _ _ _ _ _ _ _ _ _ _ _) ?_, fun q => absurd i_0 q⟩⟩⟩
      refine hB s2 w1 _ Z2 (fun r7 w7 r hr2 o2 => ?_)
      rcases o2 with ⟨s3, er3, Z3, ey3, et3, f88, f89, nn3⟩ | ⟨g, W, r0, rr1⟩
      · rw [er3] at hr2
        have l4 := Z3.1.2.2.2.2.2.1
        have pre := zg_pre Z2 hr2
        have kk : s3.2.2.2.1 = s2.2.2.2.1 ++ [s3.2.1.length - 1] := by rw [et3]
        have a3 : s3.2.2.2.2 = (0, 0, 0) := by
          rw [et3]
          exact a2
        have kp := kid_pre pre (l := s2.2.2.2.1) Z2.2.2.2.2.2.2.2.2
        have gb := gC_cap (ns := s3.2.1) (s3.2.1.length - 1)
        have F : FR [(114, none)] w7 (sI w7 114 r1.toInt.toNat r7) := FR.I (FR.refl _ w7) rfl
        have X2 := xs_st Z3.1 F (wbd_114 Z3.1.1.1 _ (by omega) (by omega)) rfl
        have Z4 := zg_x Z3 X2 (fr_89 F rfl _) (s0_fr F rfl) s3.2.2.2.2
        have g89 : (sI w7 114 r1.toInt.toNat r7).1 89 r7.toInt.toNat = w7.1 89 r7.toInt.toNat := (F 89 _ rfl).1
        have sa := ti_add2 sa2 f88 (by omega) (by omega)
        refine ⟨Z3.1.1.2.2.1, ⟨by omega, by omega⟩, ⟨by omega, by omega⟩, ?_⟩
        generalize sI w7 114 r1.toInt.toNat r7 = w8 at *
        refine min_x (B := cap (smC (csl s3.2.1 []) 1 s3.2.2.2.1)) sa ?_ (fun r12 e12 => ⟨⟨by omega, by omega⟩, max_x (B := gD (csl s3.2.1 []) (s3.2.1.length - 1)) e89 (by rw [g89]; exact f89) (fun r14 e14 => ?_)⟩)
        · rw [kk, smC_1, (kp 1).1, k2]
          rfl
        · refine cp_27 (R := fun r => ZI f n (lkn nm) op 7 0 s3 r) hB (fun z u w' r h7 hf W => out r1 z u w' r (ZE_g hr rfl (ZE_g hr2 rfl (ZE_b h7 hf))) hf W fi0.1 fi0.2) (fun z u w' s' h7 Z' ez eu a' => ?_) F0 r7 r12 r14 _ w8 s3 Z4 (by omega) (by omega) e12 ?_ a3 (by decide) (by rw [show ((0 : Int32) + (1 : Int32)).toInt = 1 by decide]; omega) (fun r h7 _ => h7) (by omega)
          · have hE : ZE f n (lkn nm) op [(4, 0), (4, 0), (7, 0)] s1 (zok s') := ZE_g hr rfl (ZE_g hr2 rfl (ZE_g h7 rfl (ZE_n _ _ _ _ _)))
            have cs : cs1 (csl s'.2.1 []) (16, s'.2.2.2.2.1, s'.2.2.2.2.2.2, s'.2.2.2.1) = (cap (smC (csl s'.2.1 []) 1 s'.2.2.2.1), mxD (csl s'.2.1 []) 0 s'.2.2.2.1) := by
              unfold cs1
              rw [if_neg (show ¬ (16 : Int) = 23 by decide)]
              show (cap (smC (csl s'.2.1 []) (own 16) s'.2.2.2.1), mxD (csl s'.2.1 []) 0 s'.2.2.2.1 + (if (16 : Int) = 35 then 1 else 0)) = _
              rw [if_neg (by decide), show own 16 = 1 by decide, Int.add_zero]
            exact cm_st (d := (16, s'.2.2.2.2.1, s'.2.2.2.2.2.2, s'.2.2.2.1)) Z' (show (16 : Int32).toInt = 16 by decide) (by rw [a']; show (0 : Int32).toInt = 0; decide) (show ¬ (16 : Int) = 31 by decide) (by omega) (by omega) (by rw [cs]; exact ez) (by rw [cs]; exact eu) (fun y w2 o => good y w' w2 s' hE Z' o)
          · rw [kk, mxD_a, (kp 0).2, k2]
            show r14.toInt = mxD (csl s3.2.1 []) (if gD (csl s2.2.1 []) (s2.2.1.length - 1) ≤ 0 then 0 else gD (csl s2.2.1 []) (s2.2.1.length - 1)) [s3.2.1.length - 1]
            rw [show (if gD (csl s2.2.1 []) (s2.2.1.length - 1) ≤ 0 then 0 else gD (csl s2.2.1 []) (s2.2.1.length - 1)) = gD (csl s2.2.1 []) (s2.2.1.length - 1) by
              by_cases q : gD (csl s2.2.1 []) (s2.2.1.length - 1) ≤ 0
              · rw [if_pos q]
                omega
              · rw [if_neg q]]
            exact e14
      · have hE : ZE f n (lkn nm) op [(4, 0), (4, 0), (7, 0)] s1 r := ZE_g hr rfl (ZE_b hr2 g)
        have F : FR [(114, none)] w7 (sI w7 114 r1.toInt.toNat r7) := FR.I (FR.refl _ w7) rfl
        have W2 := zw_st W F (wbd_114 W.1.1 _ (by omega) (by omega)) rfl
        refine ⟨W.1.2.2.1, ⟨by omega, by omega⟩, ⟨r0, rr1⟩, min_w (fun r11 => ⟨⟨r0, rr1⟩, max_w (fun r13 => ?_)⟩)⟩
        have e0 := W2.2.2.1
        have ew := W2.2.1
        cases F0 with
        | zero => omega
        | succ F0 =>
          rw [q_Rd_readPar_27.eq_2]
          exact ⟨fun _ => out _ _ _ _ r hE g W2 fi0.1 fi0.2, fun _ => ⟨fun _ => out _ _ _ _ r hE g W2 fi0.1 fi0.2, fun q => absurd (show 0 ≤ ((sI w7 114 r1.toInt.toNat r7).1 87 9).toInt by omega) q⟩⟩
  · have hE : ZE f n (lkn nm) op [(4, 0), (4, 0), (7, 0)] s1 r := ZE_b hr g
    have e0 := W.2.2.1
    have ew := W.2.1
    refine ⟨⟨r0, rr1⟩, ⟨r0, rr1⟩, ?_⟩
    generalize hFU : FU = F0 at *
    cases F0 with
    | zero => omega
    | succ F0 =>
      rw [q_Rd_readPar_27.eq_2]
      exact ⟨fun q => absurd q (by decide), fun _ => ⟨fun _ => out _ _ _ _ r hE g W r0 rr1, fun q => absurd (show 0 ≤ (w1.1 87 9).toInt by omega) q⟩⟩
theorem xs_c0 {w : MW} {f : Int → Int} {n : Int} {nm : List Nm} {op : Nat} {p : Int} {ns : List Nod} {v : Int32} (h : XS w f n nm op p ns) : XS (sI w 108 0 v) f n nm op p ns := by
  have F : FR [(108, some 0)] w (sI w 108 0 v) := FR.I (FR.refl _ w) rfl
  refine ⟨xb_fr h.1 F (wbd_108_0 h.1.1) (by rw [(F 87 2 rfl).1]; exact h.1.2.2.2.2.2.2.2.2) rfl, tkc_fr h.2.1 F rfl, h.2.2.1, by rw [(F 87 9 rfl).1]; exact h.2.2.2.1, ⟨by rw [(F 108 1 rfl).1]; exact h.2.2.2.2.1.1, fun i d hd => ?_⟩, h.2.2.2.2.2⟩
  have t := h.2.2.2.2.1.2 i d hd
  rw [(F 109 i rfl).1, (F 110 i rfl).1, (F 115 i rfl).2.1]
  exact t
/-- a statement -/
theorem c_stm {oq : Int} {B P S : MW → (Int32 → MW → Prop) → Prop} {G : MW → Int32 → (Int32 → MW → Prop) → Prop} {f : Int → Int} {n : Int} {nm : List Nm} {op j : Nat} (ho : op ≤ 20) (hj : j ≤ op) (hP : ∀ (w : MW) (s1 : ZS) (Q : Int32 → MW → Prop), ZG w f n oq nm op (j + 1) s1 → s1.2.2.2.1 = [] → s1.2.2.2.2 = (0, 0, 0) → CBd f n nm op [(4, 0), (4, 0), (7, 0)] s1 Q → CGd f n oq nm op (j + 1) 16 [(4, 0), (4, 0), (7, 0)] s1 Q → P w Q) (hG : ∀ (w : MW) (s1 : ZS) (k : Int) (a : Int32) (Q : Int32 → MW → Prop), ZG w f n oq nm op (j + 1) s1 → (k = 17 ∨ k = 19 ∨ k = 20) → a.toInt = k → s1.2.2.2.1 = [] → s1.2.2.2.2 = (0, 0, 0) → CBd f n nm op (its k) s1 Q → CGd f n oq nm op (j + 1) k (its k) s1 Q → G w a Q) (hPw : ∀ (e : Int) (w : MW) (Q : Int32 → MW → Prop), ZW w f n nm op e → (∀ (y : Int32) (w' : MW), ZW w' f n nm op e → 0 ≤ y.toInt → y.toInt < 301 → Q y w') → P w Q) (hGw : ∀ (e : Int) (w : MW) (a : Int32) (Q : Int32 → MW → Prop), ZW w f n nm op e → (∀ (y : Int32) (w' : MW), ZW w' f n nm op e → 0 ≤ y.toInt → y.toInt < 301 → Q y w') → G w a Q) : HCm (pb_Rd_readStatement B G P S) 9 op j f n oq nm := by
  intro s w Q hZ hQ
  have X := hZ.1
  have hw := X.2.2.2.1
  have l3 := X.2.2.2.2.2.1
  have c3 : (w.1 87 3).toInt = (wrd f n s.1).1 := X.2.1.1
  have nob : ¬ isS (wrd f n s.1).1 = true → p_Rd_fail w (fun w4 => (Q 0 w4)) := fun no => fl_g X (fun w' F' X' => hQ 0 w' (zer (wrd f n s.1).2.1) (ZI_9b no) (Or.inr ⟨rfl, zw_of X', by decide, by decide⟩))
  have no2 : ∀ P : Prop, (isS (wrd f n s.1).1 = true → P → False) → P → p_Rd_fail w (fun w4 => (Q 0 w4)) := fun P h p => nob (fun z => h z p)
  have m0 := hZ.2.2.1
  have m1 := hZ.2.2.2.1
  have sc := ti_add2 hZ.2.1.1 i_1 (by omega) (by omega)
  have F1 : FR [(108, some 0)] w (sI w 108 0 ((w.1 108 0) + (1 : Int32))) := FR.I (FR.refl _ w) rfl
  have Z1 : ZG (sI w 108 0 ((w.1 108 0) + (1 : Int32))) f n oq nm op (j + 1) (zin s) := ⟨xs_c0 X, ⟨by rw [sI_same, sc]; show s.2.2.1 + (j : Int) + 1 = s.2.2.1 + ((j + 1 : Nat) : Int); omega, by rw [(F1 108 2 rfl).1]; exact hZ.2.1.2⟩, m0, m1, szc_k hZ.2.2.2.2.1 (fr_89 F1 rfl _), hZ.2.2.2.2.2.1, hZ.2.2.2.2.2.2.1, hZ.2.2.2.2.2.2.2.1, fun c hc => (by cases hc)⟩
  rw [pb_Rd_readStatement.eq_1, c3]
  refine ⟨fun z => absurd z (by omega), fun _ => ⟨fun q => nob (fun z => by have := isS_t.mp z; omega), fun g11 => ⟨fun l26 => ⟨fun q => nob (fun z => by have := isS_t.mp z; omega), fun n15 => ⟨fun q => nob (fun z => by have := isS_t.mp z; omega), fun n18 => ⟨fun n21 => ⟨X.1.2.2.1, ?_⟩, fun q => nob (fun z => by have := isS_t.mp z; have := Classical.not_not.mp q; omega)⟩⟩⟩, fun q => nob (fun z => by have := isS_t.mp z; omega)⟩⟩⟩
  have yes : isS (wrd f n s.1).1 = true := isS_t.mpr (by omega)
  refine ct_go Z1 rfl (fun w' r hz hf W => ?_) (fun v s1 hz es F6 Zv => ?_)
  · have bd : ∀ y : Int32, 0 ≤ y.toInt → y.toInt < 301 → ∀ w2, ZW w2 f n nm op r.2.1 → Q y w2 := fun y y0 y1 w2 W2 => hQ y w2 r (ZI_9 yes (ZE_b hz hf) (by rw [if_neg (by rw [hf]; decide)])) (Or.inr ⟨hf, W2, y0, y1⟩)
    have q : ∀ (y : Int32) (w2 : MW), ZW w2 f n nm op r.2.1 → 0 ≤ y.toInt → y.toInt < 301 → Q y w2 := fun y w2 W2 y0 y1 => bd y y0 y1 w2 W2
    exact ⟨fun _ => cw_chg W q, fun _ => ⟨fun _ => cw_pau W q, fun _ => ⟨fun _ => cw_pau W q, fun _ => ⟨fun _ => cw_chg W q, fun _ => ⟨fun k => absurd k n15, fun _ => ⟨fun _ => hPw _ w' _ W q, fun _ => ⟨fun _ => hGw _ w' _ _ W q, fun _ => ⟨fun k => absurd k n18, fun _ => ⟨fun _ => hGw _ w' _ _ W q, fun _ => ⟨fun _ => hGw _ w' _ _ W q, fun _ => cw_sho W q⟩⟩⟩⟩⟩⟩⟩⟩⟩⟩
  · have h0 : s1.2.2.2.1 = [] := by rw [es]; rfl
    have hA : s1.2.2.2.2 = (0, 0, 0) := by rw [es]; rfl
    have bad : ∀ L : List (Int × Int), its (wrd f n s.1).1 = L → CBd f n nm op L s1 Q := fun L el y w' r hE hf W y0 y1 => hQ y w' r (ZI_9 yes (by rw [el]; exact ZE_g hz rfl hE) (by rw [if_neg (by rw [hf]; decide)])) (Or.inr ⟨hf, W, y0, y1⟩)
    have good : ∀ L : List (Int × Int), its (wrd f n s.1).1 = L → CGd f n oq nm op (j + 1) (wrd f n s.1).1 L s1 Q := fun L el y w9 w' t hE Z9 o => by
      have hE2 : ZE f n (lkn nm) op ((0, (wrd f n s.1).1) :: its (wrd f n s.1).1) (zin s) (zok t) := by
        rw [el]
        exact ZE_g hz rfl hE
      obtain ⟨kk, hk⟩ := id hE2
      have wf := ZZ_wf f n (lkn nm) kk _ _ _ _ hk rfl hZ.2.2.2.2.2.1 hZ.2.2.2.2.2.2.1 (fun c hc => (by cases hc))
      refine mko_cr (m := 1) (c := 9) (op' := op) (s := s) Z9 (by show ((j + 1 : Nat) : Int) = 1 + (j : Int); omega) (by decide) (by decide) o (fun c hc => Z9.2.2.2.2.2.2.2.2 c hc) (fun z => ?_) hZ.2.2.2.2.2.2.2.2 wf.2.1 (fun r er => ZI_9 yes hE2 (by
        show (if true = true then _ else _)
        rw [if_pos rfl]
        exact er)) hQ
      have z' : (wrd f n s.1).1 = 23 := z
      rw [z'] at hk
      have dd := zz_do hk rfl
      obtain ⟨l, u, el2, e0⟩ := dd.2
      have bb := Z9.2.2.2.2.2.2.1 l (by rw [el2]; exact e0) (by rw [el2])
      rw [el2] at bb
      exact ⟨dd.1, ⟨l, u, el2, e0⟩, bb⟩
    have c3' : ∀ c : Int, (wrd f n s.1).1 = c → (w.1 87 3).toInt = c := fun c e => c3.trans e
    refine ⟨fun k => ?_, fun _ => ⟨fun k => ?_, fun _ => ⟨fun k => ?_, fun _ => ⟨fun k => ?_, fun _ => ⟨fun k => absurd k n15, fun _ => ⟨fun k => ?_, fun _ => ⟨fun k => ?_, fun _ => ⟨fun k => absurd k n18, fun _ => ⟨fun k => ?_, fun _ => ⟨fun k => ?_, fun n20 => ?_⟩⟩⟩⟩⟩⟩⟩⟩⟩⟩
    · have g := good _ rfl
      have b := bad _ rfl
      rw [k] at g b
      exact ck_chg (k := 11) Zv ho (c3' _ k) h0 (Or.inl ⟨rfl, rfl⟩) b g
    · have g := good _ rfl
      have b := bad _ rfl
      rw [k] at g b
      exact ck_wait Zv ho (c3' _ k) h0 hA b g
    · have g := good _ rfl
      have b := bad _ rfl
      rw [k] at g b
      exact ck_until Zv ho (c3' _ k) h0 hA b g
    · have g := good _ rfl
      have b := bad _ rfl
      rw [k] at g b
      exact ck_chg (k := 14) Zv ho (c3' _ k) h0 (Or.inr ⟨rfl, rfl⟩) b g
    · have g := good _ rfl
      have b := bad _ rfl
      rw [k] at g b
      exact hP v s1 _ Zv h0 hA b g
    · have g := good _ rfl
      have b := bad _ rfl
      rw [k] at g b
      exact hG v s1 17 _ _ Zv (by decide) (c3' _ k) h0 hA b g
    · have g := good _ rfl
      have b := bad _ rfl
      rw [k] at g b
      exact hG v s1 19 _ _ Zv (by decide) (c3' _ k) h0 hA b g
    · have g := good _ rfl
      have b := bad _ rfl
      rw [k] at g b
      exact hG v s1 20 _ _ Zv (by decide) (c3' _ k) h0 hA b g
    · exact ck_short (k := (wrd f n s.1).1) Zv (by omega) c3 h0 hA (bad _ rfl) (good _ rfl)
theorem cw_blk {B P S : MW → (Int32 → MW → Prop) → Prop} {G : MW → Int32 → (Int32 → MW → Prop) → Prop} {w : MW} {f : Int → Int} {n : Int} {nm : List Nm} {op : Nat} {e : Int} {Q : Int32 → MW → Prop} (h : ZW w f n nm op e) (hQ : Q 0 w) : pb_Rd_readBlock B G P S w Q := by
  have e0 := h.2.2.1
  have ew := h.2.1
  exact Eq.mpr (pb_Rd_readBlock.eq_1 _ _ _ _ _ _) ⟨fun _ => fl_w h hQ, fun q => absurd (show 0 ≤ (w.1 87 9).toInt by omega) q⟩
/-- blocks and statements at every depth -/
theorem c_bs {oq : Int} (f : Int → Int) (n : Int) (nm : List Nm) (d : Nat) : (∀ op j : Nat, op ≤ 20 → j ≤ op + 1 → 3 * (20 - op) + 1 ≤ d → HCm (pn_Rd_readBlock d) 4 op j f n oq nm) ∧ (∀ (op j : Nat) (w : MW) (s1 : ZS) (k : Int) (a : Int32) (Q : Int32 → MW → Prop), op ≤ 20 → j ≤ op + 1 → 3 * (20 - op) + 2 ≤ d → ZG w f n oq nm op j s1 → (k = 17 ∨ k = 19 ∨ k = 20) → a.toInt = k → s1.2.2.2.1 = [] → s1.2.2.2.2 = (0, 0, 0) → CBd f n nm op (its k) s1 Q → CGd f n oq nm op j k (its k) s1 Q → pn_Rd_readGuarded d w a Q) ∧ (∀ (op j : Nat) (w : MW) (s1 : ZS) (Q : Int32 → MW → Prop), op ≤ 20 → j ≤ op + 1 → 3 * (20 - op) + 2 ≤ d → ZG w f n oq nm op j s1 → s1.2.2.2.1 = [] → s1.2.2.2.2 = (0, 0, 0) → CBd f n nm op [(4, 0), (4, 0), (7, 0)] s1 Q → CGd f n oq nm op j 16 [(4, 0), (4, 0), (7, 0)] s1 Q → pn_Rd_readPar d w Q) ∧ (∀ op j : Nat, op ≤ 20 → j ≤ op → 3 * (20 - op) + 3 ≤ d → HCm (pn_Rd_readStatement d) 9 op j f n oq nm) ∧ (1 ≤ d → ∀ (op : Nat) (e : Int) (w : MW) (Q : Int32 → MW → Prop), ZW w f n nm op e → Q 0 w → pn_Rd_readBlock d w Q) ∧ (2 ≤ d → ∀ (op : Nat) (e : Int) (w : MW) (Q : Int32 → MW → Prop), ZW w f n nm op e → (∀ (y : Int32) (w' : MW), ZW w' f n nm op e → 0 ≤ y.toInt → y.toInt < 301 → Q y w') → pn_Rd_readPar d w Q) ∧ (2 ≤ d → ∀ (op : Nat) (e : Int) (w : MW) (a : Int32) (Q : Int32 → MW → Prop), ZW w f n nm op e → (∀ (y : Int32) (w' : MW), ZW w' f n nm op e → 0 ≤ y.toInt → y.toInt < 301 → Q y w') → pn_Rd_readGuarded d w a Q) := by
  induction d with
  | zero => exact ⟨fun _ _ _ _ h => by omega, fun _ _ _ _ _ _ _ _ _ h => by omega, fun _ _ _ _ _ _ _ h => by omega, fun _ _ _ _ h => by omega, fun h => by omega, fun h => by omega, fun h => by omega⟩
  | succ d ih =>
    refine ⟨fun op j ho hj hd s w Q hZ hQ => ?_, fun op j w s1 k a Q ho hj hd hZ hk ha h0 hA bad good => ?_, fun op j w s1 Q ho hj hd hZ h0 hA bad good => ?_, fun op j ho hj hd s w Q hZ hQ => ?_, fun _ op e w Q h hQ => ?_, fun hd op e w Q h hQ => ?_, fun hd op e w a Q h hQ => ?_⟩
    · rw [pe_Rd_readBlock]
      exact c_blk ho (fun o => ih.2.2.2.1 (op + 1) j (by omega) (by omega) (by omega)) s w Q hZ hQ
    · rw [pe_Rd_readGuarded]
      exact c_gua (ih.1 op j ho hj (by omega)) (fun e w Q W q => ih.2.2.2.2.1 (by omega) op e w Q W q) hZ ho hk ha h0 hA bad good
    · rw [pe_Rd_readPar]
      exact c_par (ih.1 op j ho hj (by omega)) hZ h0 hA bad good
    · rw [pe_Rd_readStatement]
      exact c_stm ho hj (fun w s1 Q hZ h0 hA bad good => ih.2.2.1 op (j + 1) w s1 Q ho (by omega) (by omega) hZ h0 hA bad good) (fun w s1 k a Q hZ hk ha h0 hA bad good => ih.2.1 op (j + 1) w s1 k a Q ho (by omega) (by omega) hZ hk ha h0 hA bad good) (fun e w Q W q => ih.2.2.2.2.2.1 (by omega) op e w Q W q) (fun e w a Q W q => ih.2.2.2.2.2.2 (by omega) op e w a Q W q) s w Q hZ hQ
    · rw [pe_Rd_readBlock]
      exact cw_blk h hQ
    · rw [pe_Rd_readPar]
      exact cw_par (fun e w Q W q => ih.2.2.2.2.1 (by omega) op e w Q W q) h hQ
    · rw [pe_Rd_readGuarded]
      exact cw_gua (fun e w Q W q => ih.2.2.2.2.1 (by omega) op e w Q W q) h hQ
/-- THE CLASS READS A BLOCK exactly -/
theorem c_block {oq : Int} {f : Int → Int} {n : Int} {nm : List Nm} {op j : Nat} (ho : op ≤ 20) (hj : j ≤ op + 1) : HCm p_Rd_readBlock 4 op j f n oq nm := (c_bs f n nm 400).1 op j ho hj (by omega)
/-- THE CLASS READS A STATEMENT exactly -/
theorem c_statement {oq : Int} {f : Int → Int} {n : Int} {nm : List Nm} {op j : Nat} (ho : op ≤ 20) (hj : j ≤ op) : HCm p_Rd_readStatement 9 op j f n oq nm := (c_bs f n nm 400).2.2.2.1 op j ho hj (by omega)
theorem cw_block {f : Int → Int} {n e : Int} {nm : List Nm} {op : Nat} {w : MW} {Q : Int32 → MW → Prop} (h : ZW w f n nm op e) (hQ : Q 0 w) : p_Rd_readBlock w Q := (c_bs (oq := 0) f n nm 400).2.2.2.2.1 (by decide) op e w Q h hQ
/-! the class reads declarations -/
def lanm : Pl := [(108, some 10), (116, none), (117, none), (118, none), (119, none), (120, none), (121, none)]
theorem ca_add {w : MW} {f : Int → Int} {n p c U Bk : Int} {nm : List Nm} {op : Nat} {ns : List Nod} {l : List Int} {code : Int64} {k u b : Int32} {Q : MW → Prop} (h : XS w f n nm op p ns) (lt : nm.length < 40) (hc : code.toInt = cod 0 l) (hl : ∀ x ∈ l, ldc x) (hk : k.toInt = c) (hu : u.toInt = U) (hb : b.toInt = Bk) (u0 : 0 ≤ U) (b0 : -1 ≤ Bk) (b1 : Bk ≤ 300) (b10 : c = 10 → 0 ≤ Bk) (hQ : ∀ w', FR lanm w w' → XS w' f n (nm ++ [(l, c, U, Bk)]) op p ns → Q w') : p_Pr_addNames108 w code k u b Q := by
  have NM := h.1.2.2.2.2.2.2.1
  have n0 := NM.1
  have N : 0 ≤ (w.1 108 10).toInt ∧ (w.1 108 10).toInt < 40 := ⟨by omega, by omega⟩
  have tn : (w.1 108 10).toInt.toNat = nm.length := by omega
  have sa := ti_add2 n0 i_1 (by omega) (by omega)
  refine Eq.mpr (p_Pr_addNames108.eq_1 _ _ _ _ _ _) ⟨fun z => absurd z (by omega), fun _ => ⟨N, N, N, N, N, N, ?_⟩⟩
  rw [tn]
  have F : FR lanm w (sI (sI (sJ (sI (sI (sI (sJ w 116 nm.length code) 117 nm.length k) 118 nm.length u) 119 nm.length b) 120 nm.length 0) 121 nm.length 5) 108 10 ((w.1 108 10) + (1 : Int32))) := FR.I (FR.I (FR.J (FR.I (FR.I (FR.I (FR.J (FR.refl _ w) rfl) rfl) rfl) rfl) rfl) rfl) rfl
  have hB : BND (sI (sI (sJ (sI (sI (sI (sJ w 116 nm.length code) 117 nm.length k) 118 nm.length u) 119 nm.length b) 120 nm.length 0) 121 nm.length 5) 108 10 ((w.1 108 10) + (1 : Int32))) := wbd_108_10 (wbd_121 (bnd_J (wbd_119 (wbd_118 (wbd_117 (bnd_J h.1.1) _) _) _ (by omega) (by omega))) _ (by decide) (by decide)) (by omega) (by omega)
  have r10 : (sI (sI (sJ (sI (sI (sI (sJ w 116 nm.length code) 117 nm.length k) 118 nm.length u) 119 nm.length b) 120 nm.length 0) 121 nm.length 5) 108 10 ((w.1 108 10) + (1 : Int32))).1 108 10 = (w.1 108 10) + (1 : Int32) := sI_same _ _ _ _
  have r116 : ∀ j, (sI (sI (sJ (sI (sI (sI (sJ w 116 nm.length code) 117 nm.length k) 118 nm.length u) 119 nm.length b) 120 nm.length 0) 121 nm.length 5) 108 10 ((w.1 108 10) + (1 : Int32))).2.1 116 j = (sJ w 116 nm.length code).2.1 116 j := fun j => rfl
  have r117 : ∀ j, (sI (sI (sJ (sI (sI (sI (sJ w 116 nm.length code) 117 nm.length k) 118 nm.length u) 119 nm.length b) 120 nm.length 0) 121 nm.length 5) 108 10 ((w.1 108 10) + (1 : Int32))).1 117 j = (sI w 117 nm.length k).1 117 j := fun j => rfl
  have r118 : ∀ j, (sI (sI (sJ (sI (sI (sI (sJ w 116 nm.length code) 117 nm.length k) 118 nm.length u) 119 nm.length b) 120 nm.length 0) 121 nm.length 5) 108 10 ((w.1 108 10) + (1 : Int32))).1 118 j = (sI w 118 nm.length u).1 118 j := fun j => rfl
  have r119 : ∀ j, (sI (sI (sJ (sI (sI (sI (sJ w 116 nm.length code) 117 nm.length k) 118 nm.length u) 119 nm.length b) 120 nm.length 0) 121 nm.length 5) 108 10 ((w.1 108 10) + (1 : Int32))).1 119 j = (sI w 119 nm.length b).1 119 j := fun j => rfl
  generalize (sI (sI (sJ (sI (sI (sI (sJ w 116 nm.length code) 117 nm.length k) 118 nm.length u) 119 nm.length b) 120 nm.length 0) 121 nm.length 5) 108 10 ((w.1 108 10) + (1 : Int32))) = w' at *
  have len : ∀ y : Nm, (nm ++ [y]).length = nm.length + 1 := fun y => by rw [List.length_append, List.length_singleton]
  refine hQ w' F ⟨⟨hB, ((F 87 0 rfl).2.2).trans h.1.2.1, ((F 87 1 rfl).2.2).trans h.1.2.2.1, fun i k hk => by rw [(F 90 i rfl).2.1]; exact h.1.2.2.2.1 i k hk, (cf_fr F rfl).trans h.1.2.2.2.2.1, by rw [(F 1 2 rfl).1]; exact h.1.2.2.2.2.2.1, ⟨by rw [r10, sa, len]; omega, by rw [len]; omega, fun i x hx => ?_⟩, by rw [(F 87 8 rfl).1]; exact h.1.2.2.2.2.2.2.2.1, by rw [(F 87 2 rfl).1]; exact h.1.2.2.2.2.2.2.2.2⟩, tkc_fr h.2.1 F rfl, h.2.2.1, by rw [(F 87 9 rfl).1]; exact h.2.2.2.1, ⟨by rw [(F 108 1 rfl).1]; exact h.2.2.2.2.1.1, fun i d hd => ?_⟩, h.2.2.2.2.2⟩
  · rcases app_get hx with q | ⟨q, q2⟩
    · have il := (List.getElem?_eq_some_iff.mp q).1
      have t := NM.2.2 i x q
      rw [r116, sJ_at, if_neg (fun z => by omega), r117, sI_ne _ _ _ _ _ (by omega), r118, sI_ne _ _ _ _ _ (by omega), r119, sI_ne _ _ _ _ _ (by omega)]
      exact t
    · rw [q, r116, sJ_same, r117, sI_same, r118, sI_same, r119, sI_same, q2]
      exact ⟨hc, hk, hu, hb, hl, b10, u0⟩
  · have t := h.2.2.2.2.1.2 i d hd
    rw [(F 109 i rfl).1, (F 110 i rfl).1, (F 115 i rfl).2.1]
    exact t
theorem cw_add {w : MW} {code : Int64} {k u b : Int32} {e : Int} {Q : MW → Prop} (hI : BND w) (he : (w.1 87 9).toInt = e) (hQ : ∀ w', (w'.1 87 9).toInt = e → Q w') : p_Pr_addNames108 w code k u b Q := by
  have b10 := (bd_108_10 hI).1
  refine Eq.mpr (p_Pr_addNames108.eq_1 _ _ _ _ _ _) ⟨fun _ => hQ w he, fun z => ?_⟩
  have N : 0 ≤ (w.1 108 10).toInt ∧ (w.1 108 10).toInt < 40 := ⟨b10, by omega⟩
  exact ⟨N, N, N, N, N, N, hQ _ he⟩
/-- the end of a declaration where it is wrong -/
theorem cw_114 {w : MW} {f : Int → Int} {n e : Int} {nm : List Nm} {op : Nat} {i k u b : Int32} {code : Int64} {A : Int32 → MW → Prop} {E : MW → Prop} {Q : Int32 → MW → Prop} (h : ZW w f n nm op e) (hA : ∀ w', (w'.1 87 9).toInt = e → A (i + (1 : Int32)) w') : q_Rd_read_1_108_114 i k code b u w A E Q :=
  Eq.mpr (q_Rd_read_1_108_114.eq_1 _ _ _ _ _ _ _ _ _) ⟨fun _ => cw_tk h ⟨h.1.2.2.1, cw_add h.1.1 h.2.1 hA⟩, fun _ => cw_mk h (fun r15 w15 _ _ W => ⟨W.1.2.2.1, cw_add W.1.1 W.2.1 hA⟩)⟩
theorem lkn_c {w : MW} {nm : List Nm} (h : NmC w nm) (l : List Int) : lkn nm l = lki l nm 0 := by
  unfold lkn
  refine if_neg (fun z => ?_)
  rcases lki_b l nm 0 with ⟨_, b, _⟩ | ⟨i, x, a, _, d⟩
  · rw [b] at z
    exact absurd (show (0 : Int) = 10 from z.1) (by decide)
  · rw [d] at z
    have t := (h.2.2 i x a).2.2.2.2.2.1 (show x.2.1 = 10 from z.1)
    have z2 : x.2.2.2 < 0 := z.2
    omega
/-- between two declarations -/
def CD (w : MW) (f : Int → Int) (n : Int) (s : DS) : Prop := ZG w f n (-1) s.2.2.2 0 0 (dbl s) ∧ WNm s.2.1 s.2.2.2 ∧ (w.1 108 2).toInt = -1 ∧ ∀ (i : Nat) (x : Nm), s.2.2.2[i]? = some x → 0 ≤ x.2.2.2 → ∃ d, s.2.1[x.2.2.2.toNat]? = some d ∧ d.1 = 35
/-- a new name -/
theorem ct_new {w : MW} {f : Int → Int} {n : Int} {s : DS} {Q : Int64 → MW → Prop} (h : CD w f n s) (hb : ∀ (code : Int64) (w' : MW) (e : Int), ((wrd f n (wrd f n s.1).2.2.1).1 = 33 ∧ e = (wrd f n (wrd f n s.1).2.2.1).2.1) ∨ (¬ (wrd f n (wrd f n s.1).2.2.1).1 = 33 ∧ ¬ ((wrd f n (wrd f n s.1).2.2.1).1 = 30 ∧ (lki (wrd f n (wrd f n s.1).2.2.1).2.2.2.1 s.2.2.2 0).1 < 0 ∧ s.2.2.2.length < 40) ∧ e = (wrd f n (wrd f n s.1).2.2.1).2.1) ∨ (¬ (wrd f n (wrd f n s.1).2.2.1).1 = 33 ∧ ((wrd f n (wrd f n s.1).2.2.1).1 = 30 ∧ (lki (wrd f n (wrd f n s.1).2.2.1).2.2.2.1 s.2.2.2 0).1 < 0 ∧ s.2.2.2.length < 40) ∧ (wrd f n (wrd f n (wrd f n s.1).2.2.1).2.2.1).1 = 33 ∧ e = (wrd f n (wrd f n (wrd f n s.1).2.2.1).2.2.1).2.1) → ZW w' f n s.2.2.2 0 e → Q code w') (hg : ∀ (code : Int64) (w' : MW), ¬ (wrd f n (wrd f n s.1).2.2.1).1 = 33 → ((wrd f n (wrd f n s.1).2.2.1).1 = 30 ∧ (lki (wrd f n (wrd f n s.1).2.2.1).2.2.2.1 s.2.2.2 0).1 < 0 ∧ s.2.2.2.length < 40) → ¬ (wrd f n (wrd f n (wrd f n s.1).2.2.1).2.2.1).1 = 33 → code.toInt = cod 0 (wrd f n (wrd f n s.1).2.2.1).2.2.2.1 → CD w' f n ((wrd f n (wrd f n s.1).2.2.1).2.2.1, s.2) → Q code w') : p_Rd_takeNewName w Q := by
  have X : XS w f n s.2.2.2 0 s.1 s.2.1 := h.1.1
  have hw := X.2.2.2.1
  have b2 := bd_87_2 X.1.1
  have hf := xb_f X.1
  have wn := wrd_n (f := f) (n := n) (p := s.1) hf X.2.2.2.2.2.2.1 X.2.2.2.2.2.2.2
  have wn2 := wrd_n (f := f) (n := n) (p := (wrd f n s.1).2.2.1) hf (by have := X.2.2.2.2.2.2.1; omega) wn.2.1
  refine Eq.mpr (p_Rd_takeNewName.eq_1 _ _) (pnw_x X.1.1 X.1.2.1 X.1.2.2.2.1 X.2.1.2.2.1 (by rw [X.1.2.2.2.2.2.1]; exact wn.2.1) (fun w1 B1 F1 T1 W1 => ?_))
  rw [X.1.2.2.2.2.1, X.1.2.2.2.2.2.1] at T1 W1
  have XB1 : XB w1 f n s.2.2.2 0 := xb_fr X.1 F1 B1 (by rw [T1.2.2.1]; exact wn2.2.1) rfl
  have c3 : (w1.1 87 3).toInt = (wrd f n (wrd f n s.1).2.2.1).1 := T1.1
  have l3 := X.2.2.2.2.2.1
  unfold WrC at W1
  by_cases c : (wrd f n (wrd f n s.1).2.2.1).1 = 33
  · rw [if_pos ⟨c, by omega⟩] at W1
    have Z : ZW w1 f n s.2.2.2 0 (wrd f n (wrd f n s.1).2.2.1).2.1 := ⟨XB1, W1, wn2.2.2.1, by have := (bd_108_1 B1).1; show ((0 : Nat) : Int) ≤ _; omega, Nat.zero_le _⟩
    refine ⟨fun _ => fl_w Z (hb 0 w1 _ (Or.inl ⟨c, rfl⟩) Z), fun z => ?_⟩
    have := Classical.not_not.mp z
    omega
  · rw [if_neg (fun z => c z.1)] at W1
    have X1 : XS w1 f n s.2.2.2 0 (wrd f n s.1).2.2.1 s.2.1 := ⟨XB1, T1, c, by rw [W1]; exact hw, pnc_k X.2.2.2.2.1 (KNd.fr F1 rfl) (F1 108 1 rfl).1, l3, by have := X.2.2.2.2.2.2.1; omega, wn.2.1⟩
    have NM := X1.1.2.2.2.2.2.2.1
    have no : ¬ ((wrd f n (wrd f n s.1).2.2.1).1 = 30 ∧ (lki (wrd f n (wrd f n s.1).2.2.1).2.2.2.1 s.2.2.2 0).1 < 0 ∧ s.2.2.2.length < 40) → p_Rd_fail w1 (fun w3 => (Q 0 w3)) := fun q => fl_g X1 (fun w' F' X' => hb 0 w' _ (Or.inr (Or.inl ⟨c, q, rfl⟩)) (zw_of X'))
    refine ⟨fun z => no (fun q => z (by omega)), fun z => ⟨X1.1.2.2.1, ?_⟩⟩
    have k30 : (wrd f n (wrd f n s.1).2.2.1).1 = 30 := by
      have := Classical.not_not.mp z
      omega
    have wl := wrd_l (f := f) (n := n) (p := (wrd f n s.1).2.2.1) (by omega)
    have ec := T1.2.2.2.1 (by omega)
    have lc := lkn_c NM (wrd f n (wrd f n s.1).2.2.1).2.2.2.1
    refine fd_x NM ec wl.1 wl.2 (fun q => ⟨fun z => absurd z (by decide), fun _ => ⟨X1.1.2.2.1, fun lt => ?_, fun ge => no (fun q => by have := NM.1; have := q.2.2; omega)⟩⟩) (fun i x hx el => ⟨fun _ => no (fun q => ?_), fun z => ?_⟩)
    · rw [lc] at q
      have n0 := NM.1
      have yes : (wrd f n (wrd f n s.1).2.2.1).1 = 30 ∧ (lki (wrd f n (wrd f n s.1).2.2.1).2.2.2.1 s.2.2.2 0).1 < 0 ∧ s.2.2.2.length < 40 := ⟨k30, by omega, by omega⟩
      refine nx_g X1.1 X1.2.2.2.1 X1.2.1.2.2.1 X1.2.2.2.2.1 X1.2.2.2.2.2.1 (fun ok w' F' X' => ?_) (fun bd w' F' X' => hb _ w' _ (Or.inr (Or.inr ⟨c, yes, bd, rfl⟩)) (zw_of X'))
      have F2 : FR lpw w w' := F1.tr F' rfl
      refine hg _ w' c yes ok ec ⟨?_, h.2.1, by rw [(F2 108 2 rfl).1]; exact h.2.2.1, h.2.2.2⟩
      exact zg_x h.1 X' (fr_89 F2 rfl _) (s0_fr F2 rfl) (0, 0, 0)
    · have q2 := q.2.1
      rw [← lc, el] at q2
      have q3 : (i : Int) < 0 := q2
      omega
    · have il := (List.getElem?_eq_some_iff.mp hx).1
      have n4 := NM.2.1
      exact absurd (show 0 ≤ (nI i).toInt by rw [nI_toInt (by omega)]; omega) z
/-! the class reads a program -/
def BKd (ns : List Nod) (nm : List Nm) : Prop := ∀ (i : Nat) (x : Nm), nm[i]? = some x → 0 ≤ x.2.2.2 → ∃ d, ns[x.2.2.2.toNat]? = some d ∧ d.1 = 35
theorem dbk_of {ns : List Nod} {nm : List Nm} (h : BKd ns nm) : DBk (lkn nm) ns := fun l h0 h1 => by
  obtain ⟨i, x, hx, _, _, xb, b0⟩ := lkn_x (nm := nm) (l := l) (j := (lkn nm l).1) (u := (lkn nm l).2.2.1) (b := (lkn nm l).2.2.2) (by rw [← h1]) h0
  have t := h i x hx (by omega)
  rw [xb] at t
  exact t
theorem cd_mk {w : MW} {f : Int → Int} {n : Int} {s : DS} (X : XS w f n s.2.2.2 0 s.1 s.2.1) (e0 : (w.1 108 0).toInt = s.2.2.1) (m0 : 0 ≤ s.2.2.1) (m1 : s.2.2.1 ≤ (s.2.1.length : Int)) (hS : SzC w s.2.1) (hD : DWf s) (hK : BKd s.2.1 s.2.2.2) (e2 : (w.1 108 2).toInt = -1) : CD w f n s :=
  ⟨⟨X, ⟨by rw [e0]; show s.2.2.1 = s.2.2.1 + ((0 : Nat) : Int); omega, e2⟩, m0, m1, hS, hD.1, dwf_l hD, dbk_of hK, fun c hc => (by cases hc)⟩, hD.2, e2, hK⟩
theorem cd_wf {w : MW} {f : Int → Int} {n : Int} {s : DS} (h : CD w f n s) : DWf s := ⟨h.1.2.2.2.2.2.1, h.2.1⟩
theorem cd_c {w : MW} {f : Int → Int} {n : Int} {s : DS} (h : CD w f n s) : (w.1 108 0).toInt = s.2.2.1 := by
  have t : (w.1 108 0).toInt = s.2.2.1 + ((0 : Nat) : Int) := h.1.2.1.1
  omega
/-- a semicolon, and the name is told -/
theorem cq_un {w : MW} {f : Int → Int} {n c U q : Int} {s : DS} {l : List Int} {code : Int64} {i k u b : Int32} {A : Int32 → MW → Prop} (h : CD w f n (q, s.2)) (lt : s.2.2.2.length < 40) (hc : code.toInt = cod 0 l) (hl : ∀ x ∈ l, ldc x) (hk : k.toInt = c) (c10 : ¬ c = 10) (hu : u.toInt = U) (u0 : 0 ≤ U) (hb' : b.toInt = -1) (hb : ∀ (w' : MW) (r : DQ), r = dun f n s c U q l → r.1 = false → 0 ≤ r.2.1 → (w'.1 87 9).toInt = r.2.1 → A (i + (1 : Int32)) w') (hg : ∀ (w' : MW) (s' : DS), dok s' = dun f n s c U q l → s'.2.2.2.length = s.2.2.2.length + 1 → CD w' f n s' → A (i + (1 : Int32)) w') : p_Rd_take w 59 (fun w12 => ((w12.2.2 87 1 = some 108) ∧ (p_Pr_addNames108 w12 code k u b (fun w14 => (A (i + (1 : Int32)) w14))))) := by
  have X : XS w f n s.2.2.2 0 q s.2.1 := h.1.1
  have hw := X.2.2.2.1
  have c3 : (w.1 87 3).toInt = (wrd f n q).1 := X.2.1.1
  have wr : ∀ (w' : MW) (e : Int), ZW w' f n s.2.2.2 0 e → der e = dun f n s c U q l → ((w'.2.2 87 1 = some 108) ∧ (p_Pr_addNames108 w' code k u b (fun w14 => (A (i + (1 : Int32)) w14)))) := fun w' e W ee => ⟨W.1.2.2.1, cw_add W.1.1 W.2.1 (fun w2 e2 => hb w2 (der e) ee rfl W.2.2.1 e2)⟩
  refine Eq.mpr (p_Rd_take.eq_1 _ _ _) ⟨fun z => absurd z (by omega), fun _ => ⟨fun e => ?_, fun e => fl_g X (fun w' F' X' => wr w' _ (zw_of X') ?_)⟩⟩
  · have k59 : (wrd f n q).1 = 59 := by
      rw [← c3, e]
      decide
    refine nx_g X.1 hw X.2.1.2.2.1 X.2.2.2.2.1 X.2.2.2.2.2.1 (fun ok w' F' X' => ⟨X'.1.2.2.1, ?_⟩) (fun bd w' F' X' => wr w' _ (zw_of X') ?_)
    · have eq : dok ((wrd f n q).2.2.1, s.2.1, s.2.2.1, s.2.2.2 ++ [(l, c, U, -1)]) = dun f n s c U q l := by
        unfold dun
        rw [if_pos k59, if_neg ok]
      refine ca_add (c := c) (U := U) (Bk := -1) X' lt hc hl hk hu hb' u0 (by decide) (by decide) (fun z => absurd z c10) (fun w2 F2 X2 => hg w2 _ eq (by show (s.2.2.2 ++ [(l, c, U, -1)]).length = _; rw [List.length_append, List.length_singleton]) ?_)
      have F3 : FR (lanm ++ lpw) w w2 := ((FR.refl (lanm ++ lpw) w).tr F' rfl).tr F2 rfl
      have D : DWf (q, s.2) := cd_wf h
      refine cd_mk (s := ((wrd f n q).2.2.1, s.2.1, s.2.2.1, s.2.2.2 ++ [(l, c, U, -1)])) X2 (by rw [(F3 108 0 rfl).1]; exact cd_c (s := (q, s.2)) h) h.1.2.2.1 h.1.2.2.2.1 (szc_k h.1.2.2.2.2.1 (fr_89 F3 rfl _)) (dun_wf eq D) (fun j x hx x0 => ?_) (by rw [(F3 108 2 rfl).1]; exact h.2.2.1)
      rcases app_get hx with p | ⟨_, p2⟩
      · exact h.2.2.2 j x p x0
      · rw [p2] at x0
        exact absurd x0 (show ¬ (0 : Int) ≤ -1 by decide)
    · unfold dun
      rw [if_pos k59, if_pos bd]
  · unfold dun
    rw [if_neg (fun z => e (by rw [c3, z]; decide))]
/-- the declarations -/
theorem cq_38 {f : Int → Int} {n : Int} {s0 : DS} {E : MW → Prop} {Q : Int32 → MW → Prop} (hb : ∀ (w' : MW) (r : DQ), (∃ k, DP f n k s0 r) → r.1 = false → 0 ≤ r.2.1 → (w'.1 87 9).toInt = r.2.1 → E w') (hg : ∀ (w' : MW) (s' : DS), (∃ k, DP f n k s0 (dok s')) → CD w' f n s' → E w') (m : Nat) : ∀ (i : Int32) (w : MW) (s : DS), CD w f n s → (∀ r, (∃ k, DP f n k s r) → ∃ k, DP f n k s0 r) → 0 ≤ i.toInt → i.toInt ≤ (s.2.2.2.length : Int) → 42 - s.2.2.2.length < m → q_Rd_read_1_108_38 E Q m i w := by
  induction m with
  | zero => intros; omega
  | succ m ih =>
    intro i w s h H i0 i1 hm
    have X := h.1.1
    have hw := X.2.2.2.1
    have c3 : (w.1 87 3).toInt = (wrd f n s.1).1 := X.2.1.1
    have n4 := X.1.2.2.2.2.2.2.1.2.1
    have ii := ti_add2 (Eq.refl i.toInt) i_1 (by omega) (by omega)
    have done : ¬ ((wrd f n s.1).1 = 8 ∨ (wrd f n s.1).1 = 9 ∨ (wrd f n s.1).1 = 10) → E w := fun no => hg w s (H _ ⟨1, by rw [DP_u, if_neg no]⟩) h
    rw [q_Rd_read_1_108_38.eq_2, c3]
    refine ⟨fun q => by omega, fun _ => ⟨fun q => by omega, fun _ => ⟨fun q => done (by omega), fun g8 => ⟨fun q => done (by omega), fun l10 => ?_⟩⟩⟩⟩
    have hc : (wrd f n s.1).1 = 8 ∨ (wrd f n s.1).1 = 9 ∨ (wrd f n s.1).1 = 10 := by omega
    have wrong : ∀ (w' : MW) (r : DQ), dcl f n s r → r.1 = false → 0 ≤ r.2.1 → (w'.1 87 9).toInt = r.2.1 → q_Rd_read_1_108_38 E Q m (i + (1 : Int32)) w' := fun w' r hd hf e0 ew => by
      have e : E w' := hb w' r (H r ⟨1, by rw [DP_u, if_pos hc]; exact ⟨r, hd, by rw [if_neg (by rw [hf]; decide)]⟩⟩) hf e0 ew
      cases m with
      | zero => omega
      | succ m =>
        rw [q_Rd_read_1_108_38.eq_2]
        exact ⟨fun _ => e, fun _ => ⟨fun _ => e, fun q => absurd (show 0 ≤ (w'.1 87 9).toInt by omega) q⟩⟩
    have right : ∀ (w' : MW) (s' : DS), dcl f n s (dok s') → s'.2.2.2.length = s.2.2.2.length + 1 → CD w' f n s' → q_Rd_read_1_108_38 E Q m (i + (1 : Int32)) w' := fun w' s' hd hl h' => ih _ w' s' h' (fun r hr => H r (by
      obtain ⟨k, hr⟩ := hr
      refine ⟨k + 1, ?_⟩
      rw [DP_u, if_pos hc]
      refine ⟨dok s', hd, ?_⟩
      show (if true = true then _ else _)
      rw [if_pos rfl]
      exact hr)) (by omega) (by omega) (by omega)
    refine ct_new h (fun code w7 e he W => ?_) (fun code w7 ok yes ok2 ec h7 => ?_)
    · have hd : dcl f n s (der e) := by
        unfold dcl
        rcases he with ⟨a, b⟩ | ⟨a, b, d⟩ | ⟨a, b, d, g⟩
        · rw [if_pos a, b]
        · rw [if_neg a, if_pos b, d]
        · rw [if_neg a, if_neg (fun z => z b), if_pos d, g]
      have W0 := W.2.2.1
      have ew := W.2.1
      refine ⟨fun _ => Eq.mpr (p_Rd_takeUnit.eq_1 _ _) ⟨fun _ => cw_114 W (fun w' e' => wrong w' (der e) hd rfl W0 e'), fun q => absurd (show 0 ≤ (w7.1 87 9).toInt by omega) q⟩, fun _ => cw_block W (cw_114 W (fun w' e' => wrong w' (der e) hd rfl W0 e'))⟩
    · have wl := wrd_l (f := f) (n := n) (p := (wrd f n s.1).2.2.1) (by have := yes.1; omega)
      have X7 : XS w7 f n s.2.2.2 0 (wrd f n (wrd f n s.1).2.2.1).2.2.1 s.2.1 := h7.1.1
      have hw7 := X7.2.2.2.1
      have c7 : (w7.1 87 3).toInt = (wrd f n (wrd f n (wrd f n s.1).2.2.1).2.2.1).1 := X7.2.1.1
      refine ⟨fun n10 => ?_, fun y10 => ?_⟩
      · have k10 : ¬ (wrd f n s.1).1 = 10 := n10
        have up : ∀ r, r = dsg f n s (wrd f n s.1).1 (wrd f n (wrd f n s.1).2.2.1).2.2.1 (wrd f n (wrd f n s.1).2.2.1).2.2.2.1 → dcl f n s r := fun r er => by
          unfold dcl
          rw [if_neg ok, if_neg (fun z => z yes), if_neg ok2, if_neg k10]
          exact er
        have tail : ∀ (w10 : MW) (q U : Int) (u : Int32), CD w10 f n (q, s.2) → u.toInt = U → 0 ≤ U → (∀ r, r = dun f n s (wrd f n s.1).1 U q (wrd f n (wrd f n s.1).2.2.1).2.2.2.1 → dcl f n s r) → q_Rd_read_1_108_114 i (w.1 87 3) code (-1) u w10 (fun (x38_3 : Int32) (w : MW) => q_Rd_read_1_108_38 E Q m x38_3 w) E Q := fun w10 q U u h10 eu u0 hd => Eq.mpr (q_Rd_read_1_108_114.eq_1 _ _ _ _ _ _ _ _ _) ⟨fun _ => cq_un (c := (wrd f n s.1).1) (U := U) h10 yes.2.2 ec wl.1 c3 k10 eu u0 (by decide) (fun w' r er hf e0 ew => wrong w' r (hd r er) hf e0 ew) (fun w' s' es hl h' => right w' s' (hd _ es) hl h'), fun z => absurd (by rw [c3]; exact k10) z⟩
        refine Eq.mpr (p_Rd_takeUnit.eq_1 _ _) ⟨fun z => absurd z (by omega), fun _ => ?_⟩
        rw [c7]
        refine ⟨fun lt => tail w7 _ 0 0 h7 (by decide) (by decide) (fun r er => up r ?_), fun ge => ⟨fun le => ?_, fun gt => tail w7 _ 0 0 h7 (by decide) (by decide) (fun r er => up r ?_)⟩⟩
        · unfold dsg
          rw [if_neg (by omega)]
          exact er
        · have u15 : 1 ≤ (wrd f n (wrd f n (wrd f n s.1).2.2.1).2.2.1).1 ∧ (wrd f n (wrd f n (wrd f n s.1).2.2.1).2.2.1).1 ≤ 5 := ⟨by omega, le⟩
          refine nx_g X7.1 hw7 X7.2.1.2.2.1 X7.2.2.2.2.1 X7.2.2.2.2.2.1 (fun ok3 w4 F4 X4 => tail w4 (wrd f n (wrd f n (wrd f n s.1).2.2.1).2.2.1).2.2.1 (wrd f n (wrd f n (wrd f n s.1).2.2.1).2.2.1).1 _ ⟨zg_x h7.1 X4 (fr_89 F4 rfl _) (s0_fr F4 rfl) (0, 0, 0), h7.2.1, by rw [(F4 108 2 rfl).1]; exact h7.2.2.1, h7.2.2.2⟩ c7 (by omega) (fun r er => up r ?_)) (fun bd w4 F4 X4 => cw_114 (zw_of X4) (fun w' e' => wrong w' (der (wrd f n (wrd f n (wrd f n (wrd f n s.1).2.2.1).2.2.1).2.2.1).2.1) (up _ ?_) rfl (zw_of X4).2.2.1 e'))
          · unfold dsg
            rw [if_pos u15, if_neg ok3]
            exact er
          · unfold dsg
            rw [if_pos u15, if_pos bd]
        · unfold dsg
          rw [if_neg (by omega)]
          exact er
      · have k10 : (wrd f n s.1).1 = 10 := Classical.not_not.mp y10
        have up : ∀ (r : DQ) (r1 : ZR), ZI f n (lkn s.2.2.2) 0 4 0 (dbl ((wrd f n (wrd f n s.1).2.2.1).2.2.1, s.2)) r1 → (if r1.1 = true then r = dst f n s (wrd f n (wrd f n s.1).2.2.1).2.2.2.1 r1.2.2 else r = der r1.2.1) → dcl f n s r := fun r r1 a b => by
          unfold dcl
          rw [if_neg ok, if_neg (fun z => z yes), if_neg ok2, if_pos k10]
          exact ⟨r1, a, b⟩
        refine c_block (Nat.zero_le _) (Nat.zero_le _) (dbl ((wrd f n (wrd f n s.1).2.2.1).2.2.1, s.2)) w7 _ h7.1 (fun y w18 r hr o => ?_)
        rcases o with ⟨z, er, Z, ey, et, e88, e89, nn⟩ | ⟨g, W, y0, y1⟩
        · rw [er] at hr
          have la := zi_last hr
          have l3 := Z.1.2.2.2.2.2.1
          have pre := zg_pre h7.1 hr
          have hE : ∀ r, r = dst f n s (wrd f n (wrd f n s.1).2.2.1).2.2.2.1 z → dcl f n s r := fun r er2 => up r (zok z) hr (by
            show (if true = true then _ else _)
            rw [if_pos rfl]
            exact er2)
          refine Eq.mpr (q_Rd_read_1_108_114.eq_1 _ _ _ _ _ _ _ _ _) ⟨fun z => absurd (by rw [c3]; exact k10) z, fun _ => mk_g (d := (10, 0, 0, [z.2.1.length - 1])) Z.1 (show (10 : Int32).toInt = 10 by decide) (show (0 : Int32).toInt = 0 by decide) (show ¬ (10 : Int) = 31 by decide) (fun n3 w15 F15 K15 X15 _ _ _ _ _ _ => ⟨X15.1.2.2.1, ?_⟩) (fun n3 w15 F15 K15 X15 => ⟨X15.1.2.2.1, cw_add X15.1.1 X15.2.1 (fun w' e' => wrong w' (der (wrd f n z.1).2.1) (hE _ (by unfold dst; rw [if_pos n3])) rfl X15.2.2.1 e')⟩)⟩
          have eq : dok (z.1, z.2.1 ++ [(10, 0, 0, [z.2.1.length - 1])], z.2.2.1, s.2.2.2 ++ [((wrd f n (wrd f n s.1).2.2.1).2.2.2.1, 10, 0, (z.2.1.length : Int) - 1)]) = dst f n s (wrd f n (wrd f n s.1).2.2.1).2.2.2.1 z := by
            unfold dst
            rw [if_neg n3]
          refine ca_add (c := 10) (U := 0) (Bk := (z.2.1.length : Int) - 1) X15 yes.2.2 ec wl.1 (by rw [c3]; exact k10) i_0 (by omega) (by decide) (by omega) (by omega) (fun _ => by have := la.2; omega) (fun w17 F17 X17 => right w17 _ (hE _ eq) (by show (s.2.2.2 ++ [((wrd f n (wrd f n s.1).2.2.1).2.2.2.1, 10, 0, (z.2.1.length : Int) - 1)]).length = _; rw [List.length_append, List.length_singleton]) ?_)
          have e8 : ∀ k : Nat, k < z.2.1.length → w17.1 88 k = w18.1 88 k ∧ w17.1 89 k = w18.1 89 k := fun k hk => by
            rw [(F17 88 k rfl).1, (F17 89 k rfl).1]
            exact ⟨(K15 88 k (Or.inl rfl) hk).1, (K15 89 k (Or.inr (Or.inl rfl)) hk).1⟩
          have p1 := PRE.one z.2.1 (10, 0, 0, [z.2.1.length - 1])
          have cz : (w18.1 108 0).toInt = z.2.2.1 := by
            have t : (w18.1 108 0).toInt = z.2.2.1 + ((0 : Nat) : Int) := Z.2.1.1
            omega
          refine cd_mk (s := (z.1, z.2.1 ++ [(10, 0, 0, [z.2.1.length - 1])], z.2.2.1, s.2.2.2 ++ [((wrd f n (wrd f n s.1).2.2.1).2.2.2.1, 10, 0, (z.2.1.length : Int) - 1)])) X17 (by rw [(F17 108 0 rfl).1, (F15 108 0 rfl).1]; exact cz) Z.2.2.1 ?_ (szc_pre Z.2.2.2.2.1 e8 p1 (now_1 (show own 10 = 0 by decide))) (dcl_wf (hE _ eq) (cd_wf h)) (fun k x hx x0 => ?_) ?_
          · show z.2.2.1 ≤ ((z.2.1 ++ [(10, 0, 0, [z.2.1.length - 1])]).length : Int)
            have := Z.2.2.2.1
            rw [List.length_append, List.length_singleton]
            omega
          · rcases app_get hx with p | ⟨_, p2⟩
            · obtain ⟨d, hd, e⟩ := h.2.2.2 k x p x0
              exact ⟨d, (pre.tr p1).get hd, e⟩
            · obtain ⟨d, hd, e⟩ := la.1
              rw [p2]
              refine ⟨d, p1.get ?_, e⟩
              show z.2.1[((z.2.1.length : Int) - 1).toNat]? = some d
              rw [show ((z.2.1.length : Int) - 1).toNat = z.2.1.length - 1 by omega]
              exact hd
          · rw [(F17 108 2 rfl).1, (F15 108 2 rfl).1]
            exact Z.2.1.2
        · exact cw_114 W (fun w' e' => wrong w' (der r.2.1) (up _ r hr (by rw [if_neg (by rw [g]; decide)])) rfl W.2.2.1 e')
/-! the class reads a program: its statements, and whether it is small -/
theorem xs_c2 {w : MW} {f : Int → Int} {n : Int} {nm : List Nm} {op : Nat} {p : Int} {ns : List Nod} {v : Int32} (h : XS w f n nm op p ns) (v0 : -1 ≤ v.toInt) (v1 : v.toInt ≤ 300) : XS (sI w 108 2 v) f n nm op p ns := by
  have F : FR [(108, some 2)] w (sI w 108 2 v) := FR.I (FR.refl _ w) rfl
  refine ⟨xb_fr h.1 F (wbd_108_2 h.1.1 v0 v1) (by rw [(F 87 2 rfl).1]; exact h.1.2.2.2.2.2.2.2.2) rfl, tkc_fr h.2.1 F rfl, h.2.2.1, by rw [(F 87 9 rfl).1]; exact h.2.2.2.1, ⟨by rw [(F 108 1 rfl).1]; exact h.2.2.2.2.1.1, fun i d hd => ?_⟩, h.2.2.2.2.2⟩
  have t := h.2.2.2.2.1.2 i d hd
  rw [(F 109 i rfl).1, (F 110 i rfl).1, (F 115 i rfl).2.1]
  exact t
theorem wrd_32 {f : Int → Int} {n p : Int} (h : (wrd f n p).1 = 32) (p0 : 0 ≤ p) (pn : p ≤ n) : (wrd f n p).2.1 = n := by
  have kb := skp_b f n 4001 p
  have e : wrd f n p = wrq f n (skp f n 4001 p) := rfl
  have hq := kb.2 pn
  rw [e] at h ⊢
  generalize skp f n 4001 p = q at *
  unfold wrq at h ⊢
  by_cases c : n ≤ q
  · rw [if_pos c]
    show q = n
    omega
  · rw [if_neg c] at h
    by_cases d : lt1 (f q) = true
    · rw [if_pos d] at h
      unfold wrL at h
      by_cases b : bd1 (f (q + ((lts f 12 q).length : Int))) = true
      · rw [if_pos b] at h
        exact absurd (show (33 : Int) = 32 from h) (by decide)
      · rw [if_neg b] at h
        have h' : kwd (lts f 12 q) = 32 := h
        have := kwd_b (lts f 12 q)
        omega
    · rw [if_neg d] at h
      by_cases g : dg1 (f q) = true
      · rw [if_pos g] at h
        unfold wrN at h
        by_cases b : bd1 (f (dgn f q)) = true
        · rw [if_pos b] at h
          exact absurd (show (33 : Int) = 32 from h) (by decide)
        · rw [if_neg b] at h
          exact absurd (show (31 : Int) = 32 from h) (by decide)
      · rw [if_neg g] at h
        by_cases k : mk1 (f q) = true
        · rw [if_pos k] at h
          have t := mk1_t.mp k
          have h' : f q = 32 := h
          omega
        · rw [if_neg k] at h
          exact absurd (show (33 : Int) = 32 from h) (by decide)
theorem mxD_40 {acc : List (Int × Int)} : ∀ (l : List Nat) (a : Int), a ≤ 40 → (40 < mxD acc a l ↔ ∃ k ∈ l, 40 < gD acc k) := by
  intro l
  induction l with
  | nil =>
    intro a ha
    refine ⟨fun h => ?_, fun ⟨k, h, _⟩ => (by cases h)⟩
    have h' : 40 < a := h
    omega
  | cons k l ih =>
    intro a ha
    rw [mxD_c]
    by_cases q : gD acc k ≤ 40
    · have b : (if gD acc k ≤ a then a else gD acc k) ≤ 40 := by
        by_cases c : gD acc k ≤ a
        · rw [if_pos c]
          exact ha
        · rw [if_neg c]
          exact q
      rw [ih _ b]
      refine ⟨fun ⟨j, hj, e⟩ => ⟨j, List.mem_cons_of_mem _ hj, e⟩, fun ⟨j, hj, e⟩ => ?_⟩
      rcases List.mem_cons.mp hj with p | p
      · rw [p] at e
        omega
      · exact ⟨j, p, e⟩
    · rw [if_neg (by omega)]
      refine ⟨fun _ => ⟨k, List.mem_cons_self, by omega⟩, fun _ => ?_⟩
      have g : ∀ (l : List Nat) (b : Int), 40 < b → 40 < mxD acc b l := by
        intro l
        induction l with
        | nil => exact fun b hb => hb
        | cons j l ih2 =>
          intro b hb
          rw [mxD_c]
          by_cases c : gD acc j ≤ b
          · rw [if_pos c]
            exact ih2 b hb
          · rw [if_neg c]
            exact ih2 _ (by omega)
      exact g l _ (by omega)
/-- the statements outside -/
theorem cq_172 {f : Int → Int} {n : Int} {nm : List Nm} {E : Int32 → Int32 → MW → Prop} {Q : Int32 → MW → Prop} {R : ZR → Prop} (hb : ∀ (z u : Int32) (w' : MW) (r : ZR), R r → r.1 = false → ZW w' f n nm 0 r.2.1 → E z u w') (hE : ∀ (z u : Int32) (w' : MW) (s' : ZS) (o : Int), R (zok s') → (wrd f n s'.1).1 = 32 → ZG w' f n o nm 0 0 s' → (o < 0 ↔ s'.2.2.2.1 = []) → z.toInt = cap (smC (csl s'.2.1 []) 0 s'.2.2.2.1) → u.toInt = mxD (csl s'.2.1 []) 0 s'.2.2.2.1 → E z u w') (m : Nat) : ∀ (z u y i : Int32) (w : MW) (s : ZS) (o : Int), ZG w f n o nm 0 0 s → (o < 0 ↔ s.2.2.2.1 = []) → -1 ≤ o → -1 ≤ y.toInt → y.toInt ≤ 300 → (y.toInt < 0 ↔ s.2.2.2.1 = []) → z.toInt = cap (smC (csl s.2.1 []) 0 s.2.2.2.1) → u.toInt = mxD (csl s.2.1 []) 0 s.2.2.2.1 → 0 ≤ i.toInt → i.toInt ≤ (s.2.1.length : Int) → (∀ r, ZI f n (lkn nm) 0 10 0 s r → (r.1 = false ∨ ∃ s', r = zok s') → R r) → 302 - s.2.1.length < m → q_Rd_read_1_108_172 E Q m z u y i w := by
  induction m with
  | zero => intros; omega
  | succ m ih =>
    intro z u y i w s o hZ ho o1 y0 y1 hy hz hu i0 i1 hR hm
    have X := hZ.1
    have l3 := X.2.2.2.2.2.1
    have hw := X.2.2.2.1
    have c3 : (w.1 87 3).toInt = (wrd f n s.1).1 := X.2.1.1
    rw [q_Rd_read_1_108_172.eq_2, c3]
    refine ⟨fun q => by omega, fun _ => ⟨fun q => by omega, fun _ => ⟨fun k => hE z u w s o (hR _ (ZI_10n k) (Or.inr ⟨s, rfl⟩)) k hZ ho hz hu, fun k => ?_⟩⟩⟩
    refine c_statement (Nat.zero_le _) (Nat.zero_le _) s w _ hZ (fun r10 w10 r hr oo => ?_)
    rcases oo with ⟨s', er, Z', ey, et, e88, e89, nn⟩ | ⟨g, W, r0, r1⟩
    · rw [er] at hr
      have l4 := Z'.1.2.2.2.2.2.1
      have pre := zg_pre hZ hr
      have kk : s'.2.2.2.1 = s.2.2.2.1 ++ [s'.2.1.length - 1] := by rw [et]
      have kn : ¬ s'.2.2.2.1 = [] := by
        rw [kk]
        exact List.append_ne_nil_of_right_ne_nil _ (by simp)
      have kp := kid_pre pre (l := s.2.2.2.1) hZ.2.2.2.2.2.2.2.2
      have gb := gC_cap (ns := s'.2.1) (s'.2.1.length - 1)
      have s0 := smC_0 (acc := csl s.2.1 []) (fun i => (gC_cap i).1) s.2.2.2.1 0 (by decide)
      have cb := cap_b s0
      have sa := ti_add2 hz e88 (by omega) (by omega)
      have ii := ti_add2 (Eq.refl i.toInt) i_1 (by omega) (by omega)
      refine ⟨⟨by omega, by omega⟩, min_x (B := cap (smC (csl s'.2.1 []) 0 s'.2.2.2.1)) sa ?_ (fun r12 e12 => ⟨⟨by omega, by omega⟩, max_x hu e89 (fun r14 e14 => ?_)⟩)⟩
      · rw [kk, smC_1, (kp 0).1, cap_i gb.1]
      · have u2 : r14.toInt = mxD (csl s'.2.1 []) 0 s'.2.2.2.1 := by
          rw [kk, mxD_a, (kp 0).2]
          exact e14
        have RR : ∀ r, ZI f n (lkn nm) 0 10 0 s' r → (r.1 = false ∨ ∃ s2, r = zok s2) → R r := fun r h8 ho => hR r (ZI_10 k (by
          rcases ho with hf | ⟨s2, e2⟩
          · exact ZE_g hr rfl (ZE_b h8 hf)
          · rw [e2] at h8 ⊢
            exact ZE_g hr rfl (ZE_g h8 rfl (ZE_n _ _ _ _ _)))) ho
        have yn : r10.toInt < 0 ↔ s'.2.2.2.1 = [] := ⟨fun q => by omega, fun q => absurd q kn⟩
        refine ⟨fun b0 => ⟨Z'.1.1.2.2.1, ⟨b0, by omega⟩, ?_⟩, fun b0 => ⟨Z'.1.1.2.2.1, ?_⟩⟩
        · have on : o < 0 ↔ s'.2.2.2.1 = [] := ⟨fun q => by have := hy.mpr (ho.mp q); omega, fun q => absurd q kn⟩
          have F : FR [(114, none)] w10 (sI w10 114 y.toInt.toNat r10) := FR.I (FR.refl _ w10) rfl
          have X2 := xs_st Z'.1 F (wbd_114 Z'.1.1.1 _ (by omega) (by omega)) rfl
          have Z2 := zg_x Z' X2 (fr_89 F rfl _) (s0_fr F rfl) s'.2.2.2.2
          exact ih r12 r14 r10 _ _ s' o Z2 on o1 (by omega) (by omega) yn e12 u2 (by omega) (by omega) RR (by omega)
        · have on : r10.toInt < 0 ↔ s'.2.2.2.1 = [] := yn
          have F : FR [(108, some 2)] w10 (sI w10 108 2 r10) := FR.I (FR.refl _ w10) rfl
          have Z2 : ZG (sI w10 108 2 r10) f n r10.toInt nm 0 0 s' := ⟨xs_c2 Z'.1 (by omega) (by omega), ⟨by rw [(F 108 0 rfl).1]; exact Z'.2.1.1, by rw [sI_same]⟩, Z'.2.2.1, Z'.2.2.2.1, szc_k Z'.2.2.2.2.1 (fr_89 F rfl _), Z'.2.2.2.2.2⟩
          exact ih r12 r14 r10 _ _ s' r10.toInt Z2 on (by omega) (by omega) (by omega) yn e12 u2 (by omega) (by omega) RR (by omega)
    · have hf := hR r (ZI_10 k (ZE_b hr g)) (Or.inl g)
      have e0 := W.2.2.1
      have out : ∀ (z' u' y' i' : Int32) (w' : MW), ZW w' f n nm 0 r.2.1 → q_Rd_read_1_108_172 E Q m z' u' y' i' w' := fun z' u' y' i' w' W' => by
        have ew := W'.2.1
        cases m with
        | zero => omega
        | succ m =>
          rw [q_Rd_read_1_108_172.eq_2]
          exact ⟨fun _ => hb z' u' w' r hf g W', fun _ => ⟨fun _ => hb z' u' w' r hf g W', fun q => absurd (show 0 ≤ (w'.1 87 9).toInt by omega) q⟩⟩
      refine ⟨⟨r0, r1⟩, min_w (fun r12 => ⟨⟨r0, r1⟩, max_w (fun r14 => ⟨fun b0 => ⟨W.1.2.2.1, ⟨b0, by omega⟩, ?_⟩, fun b0 => ⟨W.1.2.2.1, ?_⟩⟩)⟩)⟩
      · have F : FR [(114, none)] w10 (sI w10 114 y.toInt.toNat r10) := FR.I (FR.refl _ w10) rfl
        exact out _ _ _ _ _ (zw_st W F (wbd_114 W.1.1 _ (by omega) (by omega)) rfl)
      · have F : FR [(108, some 2)] w10 (sI w10 108 2 r10) := FR.I (FR.refl _ w10) rfl
        exact out _ _ _ _ _ ⟨xb_fr W.1 F (wbd_108_2 W.1.1 (by omega) (by omega)) (by rw [(F 87 2 rfl).1]; exact W.1.2.2.2.2.2.2.2.2) rfl, by rw [(F 87 9 rfl).1]; exact W.2.1, W.2.2.1, by rw [(F 108 1 rfl).1]; exact W.2.2.2.1, W.2.2.2.2⟩
/-- THE CLASS READS A PROGRAM exactly -/
theorem c_read {w : MW} {f : Int → Int} {n : Int} {Q : Int32 → MW → Prop} (hI : BND w) (hK : KWc w) (hf : cf w = f) (hn : (w.1 1 2).toInt = n) (n0 : 0 ≤ n) (hb : ∀ (y : Int32) (w' : MW) (e : Int), PGM f n (false, e, 0, [], [], []) → y.toInt = e → 0 ≤ e → Q y w') (hg : ∀ (y : Int32) (w' : MW) (m : Int) (ns : List Nod) (nm : List Nm) (ks : List Nat), PGM f n (true, 0, m, ns, nm, ks) → y.toInt = -1 → (w'.1 108 0).toInt = m → 0 ≤ m → NmC w' nm → ((w'.1 108 2).toInt < 0 ↔ ks = []) → Q y w') : p_Rd_read_1_108 w Q := by
  have fu : (1000 : Nat) < FU := fu_lt (by decide)
  refine Eq.mpr (p_Rd_read_1_108.eq_1 _ _) (Eq.mpr (p_Pr_clears108.eq_1 _ _) ?_)
  have F : FR [(87, some 0), (87, some 1), (87, some 2), (87, some 8), (87, some 9), (108, some 0), (108, some 1), (108, some 2), (108, some 10)] w (sI (sI (sI (sI (sI (sI (sI (sR (sR w 87 0 (some 1)) 87 1 (some 108)) 108 0 0) 108 1 0) 108 2 (-1)) 108 10 0) 87 2 0) 87 8 0) 87 9 (-1)) := FR.I (FR.I (FR.I (FR.I (FR.I (FR.I (FR.I (FR.R (FR.R (FR.refl _ w) rfl) rfl) rfl) rfl) rfl) rfl) rfl) rfl) rfl
  have hB : BND (sI (sI (sI (sI (sI (sI (sI (sR (sR w 87 0 (some 1)) 87 1 (some 108)) 108 0 0) 108 1 0) 108 2 (-1)) 108 10 0) 87 2 0) 87 8 0) 87 9 (-1)) := wbd_87_9 (wbd_87_8 (wbd_87_2 (wbd_108_10 (wbd_108_2 (wbd_108_1 (wbd_108_0 (bnd_R (bnd_R hI))) (by decide) (by decide)) (by decide) (by decide)) (by decide) (by decide)) (by decide) (by decide)) (by decide) (by decide))
  have a0 : (sI (sI (sI (sI (sI (sI (sI (sR (sR w 87 0 (some 1)) 87 1 (some 108)) 108 0 0) 108 1 0) 108 2 (-1)) 108 10 0) 87 2 0) 87 8 0) 87 9 (-1)).2.2 87 0 = some 1 := rfl
  have a1 : (sI (sI (sI (sI (sI (sI (sI (sR (sR w 87 0 (some 1)) 87 1 (some 108)) 108 0 0) 108 1 0) 108 2 (-1)) 108 10 0) 87 2 0) 87 8 0) 87 9 (-1)).2.2 87 1 = some 108 := rfl
  have b0 : (sI (sI (sI (sI (sI (sI (sI (sR (sR w 87 0 (some 1)) 87 1 (some 108)) 108 0 0) 108 1 0) 108 2 (-1)) 108 10 0) 87 2 0) 87 8 0) 87 9 (-1)).1 108 0 = 0 := rfl
  have b1 : (sI (sI (sI (sI (sI (sI (sI (sR (sR w 87 0 (some 1)) 87 1 (some 108)) 108 0 0) 108 1 0) 108 2 (-1)) 108 10 0) 87 2 0) 87 8 0) 87 9 (-1)).1 108 1 = 0 := rfl
  have b2 : (sI (sI (sI (sI (sI (sI (sI (sR (sR w 87 0 (some 1)) 87 1 (some 108)) 108 0 0) 108 1 0) 108 2 (-1)) 108 10 0) 87 2 0) 87 8 0) 87 9 (-1)).1 108 2 = -1 := rfl
  have b10 : (sI (sI (sI (sI (sI (sI (sI (sR (sR w 87 0 (some 1)) 87 1 (some 108)) 108 0 0) 108 1 0) 108 2 (-1)) 108 10 0) 87 2 0) 87 8 0) 87 9 (-1)).1 108 10 = 0 := rfl
  have c2 : (sI (sI (sI (sI (sI (sI (sI (sR (sR w 87 0 (some 1)) 87 1 (some 108)) 108 0 0) 108 1 0) 108 2 (-1)) 108 10 0) 87 2 0) 87 8 0) 87 9 (-1)).1 87 2 = 0 := rfl
  have c8 : (sI (sI (sI (sI (sI (sI (sI (sR (sR w 87 0 (some 1)) 87 1 (some 108)) 108 0 0) 108 1 0) 108 2 (-1)) 108 10 0) 87 2 0) 87 8 0) 87 9 (-1)).1 87 8 = 0 := rfl
  have c9 : (sI (sI (sI (sI (sI (sI (sI (sR (sR w 87 0 (some 1)) 87 1 (some 108)) 108 0 0) 108 1 0) 108 2 (-1)) 108 10 0) 87 2 0) 87 8 0) 87 9 (-1)).1 87 9 = -1 := rfl
  generalize (sI (sI (sI (sI (sI (sI (sI (sR (sR w 87 0 (some 1)) 87 1 (some 108)) 108 0 0) 108 1 0) 108 2 (-1)) 108 10 0) 87 2 0) 87 8 0) 87 9 (-1)) = w0 at *
  have XB0 : XB w0 f n [] 0 := ⟨hB, a0, a1, fun i k hk => by rw [(F 90 i rfl).2.1]; exact hK i k hk, (cf_fr F rfl).trans hf, by rw [(F 1 2 rfl).1]; exact hn, ⟨by rw [b10]; rfl, by decide, fun i x hx => (by cases hx)⟩, by rw [c8]; rfl, by rw [c2, i_0]; exact n0⟩
  have P0 : PNc w0 [] := ⟨by rw [b1]; rfl, fun i d hd => (by cases hd)⟩
  have fin : ∀ (w' : MW) (e : Int), PGM f n (false, e, 0, [], [], []) → (w'.1 87 9).toInt = e → 0 ≤ e → Q (w'.1 87 9) w' := fun w' e h1 h2 h3 => hb _ w' e h1 h2 h3
  have end172 : ∀ (z u : Int32) (w33 : MW) (e : Int), PGM f n (false, e, 0, [], [], []) → (w33.1 87 9).toInt = e → 0 ≤ e → ((0 ≤ (w33.1 87 9).toInt → (Q (w33.1 87 9) w33)) ∧ (¬ (0 ≤ (w33.1 87 9).toInt) → ((500 < z.toInt → (p_Rd_fail w33  (fun w36 => (Q (w36.1 87 9) w36)))) ∧ (¬ (500 < z.toInt) → ((u.toInt ≤ 40 → (Q (w33.1 87 9) w33)) ∧ (¬ (u.toInt ≤ 40) → (p_Rd_fail w33  (fun w38 => (Q (w38.1 87 9) w38)))))))) ) := fun z u w33 e h1 h2 h3 => ⟨fun _ => fin w33 e h1 h2 h3, fun q => absurd (show 0 ≤ (w33.1 87 9).toInt by omega) q⟩
  have w172 : ∀ (w20 : MW) (e : Int) (m : Nat), PGM f n (false, e, 0, [], [], []) → (w20.1 87 9).toInt = e → 0 ≤ e → 0 < m → ∀ E : Int32 → Int32 → MW → Prop, E 0 0 w20 → q_Rd_read_1_108_172 E Q m 0 0 (-1) 0 w20 := fun w20 e m h1 h2 h3 hm E hE => by
    cases m with
    | zero => omega
    | succ m =>
      rw [q_Rd_read_1_108_172.eq_2]
      exact ⟨fun _ => hE, fun _ => ⟨fun _ => hE, fun q => absurd (show 0 ≤ (w20.1 87 9).toInt by omega) q⟩⟩
  refine nx_g (p := 0) XB0 (by rw [c9]; decide) (by rw [c2]; exact i_0) P0 (Nat.zero_le _) (fun ok w2 F2 X2 => ?_) (fun bd w2 F2 X2 => ?_)
  · have C2 : CD w2 f n (0, [], 0, []) := cd_mk (s := (0, [], 0, [])) X2 (by rw [(F2 108 0 rfl).1, b0]; exact i_0) (Int.le_refl _) (by show (0 : Int) ≤ ((0 : Nat) : Int); omega) (fun i d hd => (by cases hd)) ⟨fun i d hd => (by cases hd), fun i x hx => (by cases hx)⟩ (fun i x hx => (by cases hx)) (by rw [(F2 108 2 rfl).1, b2]; decide)
    refine cq_38 (s0 := (0, [], 0, [])) (fun w20 r hr hf' e0 ew => ?_) (fun w20 s' hr h' => ?_) FU 0 w2 (0, [], 0, []) C2 (fun r hr => hr) (by decide) (by rw [i_0]; show (0 : Int) ≤ ((0 : Nat) : Int); omega) (by show 42 - 0 < FU; omega)
    · have pg : PGM f n (false, r.2.1, 0, [], [], []) := by
        unfold PGM
        rw [if_neg ok]
        obtain ⟨k, hr⟩ := hr
        exact ⟨k, r, hr, by rw [if_neg (by rw [hf']; decide)]⟩
      exact w172 w20 r.2.1 FU pg ew e0 (by omega) _ (end172 0 0 w20 r.2.1 pg ew e0)
    · obtain ⟨k, hr⟩ := hr
      have up : ∀ (r : Bool × Int × Int × List Nod × List Nm × List Nat) (z : ZR), ZI f n (lkn s'.2.2.2) 0 10 0 (dbl s') z → (if z.1 = true then (tooM z.2.2.2.1 z.2.2.2.2.2.1 ∧ r = (false, n, 0, [], [], [])) ∨ (¬ tooM z.2.2.2.1 z.2.2.2.2.2.1 ∧ r = (true, 0, z.2.2.2.2.1, z.2.2.2.1, s'.2.2.2, z.2.2.2.2.2.1)) else r = (false, z.2.1, 0, [], [], [])) → PGM f n r := fun r z a b => by
        unfold PGM
        rw [if_neg ok]
        refine ⟨k, dok s', hr, ?_⟩
        show (if true = true then _ else _)
        rw [if_pos rfl]
        exact ⟨z, a, b⟩
      refine cq_172 (nm := s'.2.2.2) (R := fun z => ZI f n (lkn s'.2.2.2) 0 10 0 (dbl s') z) (fun z u w' r hz hf' W => ?_) (fun z u w' t o hz k32 Zt ho ez eu => ?_) FU 0 0 (-1) 0 w20 (dbl s') (-1) h'.1 ⟨fun _ => rfl, fun _ => by decide⟩ (by decide) (by decide) (by decide) ⟨fun _ => rfl, fun _ => by decide⟩ (show (0 : Int32).toInt = cap 0 by decide) (show (0 : Int32).toInt = 0 by decide) (by decide) (by rw [i_0]; omega) (fun r hr _ => hr) (by omega)
      · exact end172 z u w' r.2.1 (up _ r hz (by rw [if_neg (by rw [hf']; decide)])) W.2.1 W.2.2.1
      · have hw := Zt.1.2.2.2.1
        have p0 := Zt.1.2.2.2.2.2.2.1
        have pn := Zt.1.2.2.2.2.2.2.2
        have e32 := wrd_32 k32 p0 pn
        have s0 := smC_0 (acc := csl t.2.1 []) (fun i => (gC_cap i).1) t.2.2.2.1 0 (by decide)
        have m40 := mxD_40 (acc := csl t.2.1 []) t.2.2.2.1 0 (by decide)
        have big : 500 < z.toInt ↔ 500 < smC (csl t.2.1 []) 0 t.2.2.2.1 := by
          rw [ez]
          unfold cap
          by_cases q : smC (csl t.2.1 []) 0 t.2.2.2.1 ≤ 500
          · rw [if_pos q]
          · rw [if_neg q]
            omega
        have bad : tooM t.2.1 t.2.2.2.1 → p_Rd_fail w' (fun w36 => (Q (w36.1 87 9) w36)) := fun tm => fl_g Zt.1 (fun w36 F36 X36 => fin w36 n (up _ (zok t) hz (by
          show (if true = true then _ else _)
          rw [if_pos rfl]
          exact Or.inl ⟨tm, rfl⟩)) (by rw [X36.2.1]; exact e32) n0)
        refine ⟨fun q => by omega, fun _ => ⟨fun q => bad (Or.inl (big.mp q)), fun nb => ⟨fun le => ?_, fun gt => bad (Or.inr (m40.mp (by rw [← eu]; omega)))⟩⟩⟩
        have nt : ¬ tooM t.2.1 t.2.2.2.1 := fun tm => by
          rcases tm with q | q
          · exact nb (big.mpr q)
          · have := m40.mpr q
            omega
        refine hg _ w' t.2.2.1 t.2.1 s'.2.2.2 t.2.2.2.1 (up _ (zok t) hz (by
          show (if true = true then _ else _)
          rw [if_pos rfl]
          exact Or.inr ⟨nt, rfl⟩)) hw ?_ Zt.2.2.1 Zt.1.1.2.2.2.2.2.2.1 (by rw [Zt.2.1.2]; exact ho)
        have t0 : (w'.1 108 0).toInt = t.2.2.1 + ((0 : Nat) : Int) := Zt.2.1.1
        omega
  · have pg : PGM f n (false, (wrd f n 0).2.1, 0, [], [], []) := by
      unfold PGM
      rw [if_pos bd]
    have W := zw_of X2
    have ew := W.2.1
    have e0 := W.2.2.1
    have h172 := w172 w2 _ FU pg ew e0 (by omega) (fun (e172_3_33 : Int32) (e172_4_33 : Int32) (w33 : MW) => ((0 ≤ (w33.1 87 9).toInt → (Q (w33.1 87 9) w33)) ∧ (¬ (0 ≤ (w33.1 87 9).toInt) → ((500 < e172_3_33.toInt → (p_Rd_fail w33  (fun w36 => (Q (w36.1 87 9) w36)))) ∧ (¬ (500 < e172_3_33.toInt) → ((e172_4_33.toInt ≤ 40 → (Q (w33.1 87 9) w33)) ∧ (¬ (e172_4_33.toInt ≤ 40) → (p_Rd_fail w33  (fun w38 => (Q (w38.1 87 9) w38)))))))))) (end172 0 0 w2 _ pg ew e0)
    generalize hFU : FU = F0 at *
    cases F0 with
    | zero => omega
    | succ F0 =>
      rw [q_Rd_read_1_108_38.eq_2]
      exact ⟨fun q => absurd q (by decide), fun _ => ⟨fun _ => h172, fun q => absurd (show 0 ≤ (w2.1 87 9).toInt by omega) q⟩⟩
