/-! the class reads par, and a statement -/
theorem cw_chg {w : MW} {f : Int → Int} {n : Int} {nm : List Nm} {op : Nat} {e : Int} {a : Int32} {Q : Int32 → MW → Prop} (h : ZW w f n nm op e) (hQ : ∀ (y : Int32) (w' : MW), ZW w' f n nm op e → 0 ≤ y.toInt → y.toInt < 301 → Q y w') : p_Rd_readChange w a Q :=
  Eq.mpr (p_Rd_readChange.eq_1 _ _ _) (cw_nm h ⟨h.1.2.2.1, cw_lev (m := 1) h (by decide) (by decide) (fun y => ⟨fun z => absurd z (by decide), fun _ => cw_38 h (bd_108_1 h.1.1) hQ⟩)⟩)
theorem cw_pau {w : MW} {f : Int → Int} {n : Int} {nm : List Nm} {op : Nat} {e : Int} {a : Int32} {Q : Int32 → MW → Prop} (h : ZW w f n nm op e) (hQ : ∀ (y : Int32) (w' : MW), ZW w' f n nm op e → 0 ≤ y.toInt → y.toInt < 301 → Q y w') : p_Rd_readPause w a Q := by
  have t : q_Rd_readPause_33 a (w.1 108 1) w Q := Eq.mpr (q_Rd_readPause_33.eq_1 _ _ _ _) ⟨h.1.2.2.1, cw_tl h (bd_108_1 h.1.1) (bd_108_1 h.1.1) hQ⟩
  exact Eq.mpr (p_Rd_readPause.eq_1 _ _ _) ⟨h.1.2.2.1, fun _ => cw_lev (m := 0) h (by decide) (by decide) (fun y => t), fun _ => cw_lev (m := 1) h (by decide) (by decide) (fun y => cw_de h t)⟩
theorem cw_sho {w : MW} {f : Int → Int} {n : Int} {nm : List Nm} {op : Nat} {e : Int} {a : Int32} {Q : Int32 → MW → Prop} (h : ZW w f n nm op e) (hQ : ∀ (y : Int32) (w' : MW), ZW w' f n nm op e → 0 ≤ y.toInt → y.toInt < 301 → Q y w') : p_Rd_readShort w a Q := by
  have t : ∀ b : Int32, (a.toInt = 23 → b.toInt < 0) → q_Rd_readShort_87 a b w Q := fun b hb => cw_87 h (fun z => Or.inl (hb z)) hQ
  refine Eq.mpr (p_Rd_readShort.eq_1 _ _ _) ⟨fun _ => ⟨fun n23 => ⟨fun _ => t 0 (fun z => absurd z n23), fun _ => ⟨fun _ => fl_w h (cw_tk h (t _ (fun z => absurd z n23))), fun _ => ⟨fun _ => fl_w h (cw_tk h (t _ (fun z => absurd z n23))), fun _ => ⟨fun _ => cw_tk h (t _ (fun z => absurd z n23)), fun _ => fl_w h (cw_tk h (t _ (fun z => absurd z n23)))⟩⟩⟩⟩, fun _ => cw_nm h (t _ (fun _ => by decide))⟩, fun _ => cw_nm h (t _ (fun _ => by decide))⟩
theorem cw_gua {B P S : MW → (Int32 → MW → Prop) → Prop} {G : MW → Int32 → (Int32 → MW → Prop) → Prop} {w : MW} {f : Int → Int} {n : Int} {nm : List Nm} {op : Nat} {e : Int} {a : Int32} {Q : Int32 → MW → Prop} (hBw : ∀ (e : Int) (w : MW) (Q : Int32 → MW → Prop), ZW w f n nm op e → Q 0 w → B w Q) (h : ZW w f n nm op e) (hQ : ∀ (y : Int32) (w' : MW), ZW w' f n nm op e → 0 ≤ y.toInt → y.toInt < 301 → Q y w') : pb_Rd_readGuarded B G P S w a Q := by
  have f0 := bd_108_1 h.1.1
  have w94 : ∀ y5 : Int32, (-1 ≤ y5.toInt ∧ y5.toInt < 301) → q_Rd_readGuarded_94 B G P S a (w.1 108 1) (w.1 108 1) 0 y5 w Q := fun y5 h5 => cw_94 h f0 f0 (by decide) h5 hQ
  have w71 : q_Rd_readGuarded_71 B G P S a (w.1 108 1) (w.1 108 1) 0 w Q := Eq.mpr (q_Rd_readGuarded_71.eq_1 _ _ _ _ _ _ _ _ _ _) ⟨fun _ => cw_tk h (hBw _ w _ h (w94 0 (by decide))), fun _ => cw_tk h (hBw _ w _ h (w94 0 (by decide)))⟩
  have w33 : q_Rd_readGuarded_33 B G P S a (w.1 108 1) w Q := Eq.mpr (q_Rd_readGuarded_33.eq_1 _ _ _ _ _ _ _ _) ⟨h.1.2.2.1, hBw _ w _ h ⟨fun _ => w71, fun _ => ⟨fun _ => w94 (-1) (by decide), fun _ => ⟨fun _ => w94 (-1) (by decide), fun _ => w71⟩⟩⟩⟩
  exact Eq.mpr (pb_Rd_readGuarded.eq_1 _ _ _ _ _ _ _) ⟨h.1.2.2.1, fun _ => cw_lev (m := 0) h (by decide) (by decide) (fun y => w33), fun _ => cw_lev (m := 1) h (by decide) (by decide) (fun y => cw_de h w33)⟩
theorem cw_par {B P S : MW → (Int32 → MW → Prop) → Prop} {G : MW → Int32 → (Int32 → MW → Prop) → Prop} {w : MW} {f : Int → Int} {n : Int} {nm : List Nm} {op : Nat} {e : Int} {Q : Int32 → MW → Prop} (hBw : ∀ (e : Int) (w : MW) (Q : Int32 → MW → Prop), ZW w f n nm op e → Q 0 w → B w Q) (h : ZW w f n nm op e) (hQ : ∀ (y : Int32) (w' : MW), ZW w' f n nm op e → 0 ≤ y.toInt → y.toInt < 301 → Q y w') : pb_Rd_readPar B G P S w Q := by
  have fu : (1000 : Nat) < FU := fu_lt (by decide)
  have e0 := h.2.2.1
  have ew := h.2.1
  refine Eq.mpr (pb_Rd_readPar.eq_1 _ _ _ _ _ _) (hBw _ w _ h ⟨by decide, by decide, ?_⟩)
  have out : ∀ z u : Int32, p_Rd_makeNode w 16 0 (fun r16 w16 => ((w16.2.2 87 1 = some 108) ∧ ((0 ≤ r16.toInt ∧ r16.toInt < 301) ∧ ((0 ≤ r16.toInt ∧ r16.toInt < 301) ∧ ((0 ≤ r16.toInt ∧ r16.toInt < 301) ∧ (Q r16 (sI (sI (sI w16 113 r16.toInt.toNat 0) 88 r16.toInt.toNat z) 89 r16.toInt.toNat u))))))) := fun z u => cw_mk h (fun r16 w16 r0 r1 W16 => by
    have F : FR [(88, none), (89, none), (113, none)] w16 (sI (sI (sI w16 113 r16.toInt.toNat 0) 88 r16.toInt.toNat z) 89 r16.toInt.toNat u) := FR.I (FR.I (FR.I (FR.refl _ w16) rfl) rfl) rfl
    exact ⟨W16.1.2.2.1, ⟨r0, r1⟩, ⟨r0, r1⟩, ⟨r0, r1⟩, hQ _ _ (zw_st W16 F (wbd_89 (wbd_88 (wbd_113 W16.1.1 _ (by decide) (by decide)) _) _) rfl) r0 r1⟩)
  generalize hFU : FU = F0 at *
  cases F0 with
  | zero => omega
  | succ F0 =>
    rw [q_Rd_readPar_27.eq_2]
    exact ⟨fun _ => out _ _, fun _ => ⟨fun _ => out _ _, fun q => absurd (show 0 ≤ (w.1 87 9).toInt by omega) q⟩⟩
/-- par: further blocks -/
theorem cp_27 {oq : OQ} {B P S : MW → (Int32 → MW → Prop) → Prop} {G : MW → Int32 → (Int32 → MW → Prop) → Prop} {f : Int → Int} {n : Int} {nm : List Nm} {op jj : Nat} {fi : Int32} {E : Int32 → Int32 → MW → Prop} {Q : Int32 → MW → Prop} {R : ZR → Prop} (hB : ∀ oq : OQ, HCm B 4 op jj f n oq nm) (hb : ∀ (z u : Int32) (w' : MW) (r : ZR), R r → r.1 = false → ZW w' f n nm op r.2.1 → E z u w') (hE : ∀ (z u : Int32) (w' : MW) (s' : ZS), R (zok s') → ZG w' f n oq nm op jj s' → CHc w' s'.2.2.2.1 fi.toInt → z.toInt = cap (smC (csl s'.2.1 []) 1 s'.2.2.2.1) → u.toInt = mxD (csl s'.2.1 []) 0 s'.2.2.2.1 → s'.2.2.2.2 = (0, 0, 0) → E z u w') (m : Nat) : ∀ (y z u i : Int32) (w : MW) (s : ZS), ZG w f n oq nm op jj s → KCh w oq.2.1 s fi.toInt y.toInt → 0 ≤ y.toInt → y.toInt ≤ 300 → z.toInt = cap (smC (csl s.2.1 []) 1 s.2.2.2.1) → u.toInt = mxD (csl s.2.1 []) 0 s.2.2.2.1 → s.2.2.2.2 = (0, 0, 0) → 1 ≤ i.toInt → i.toInt ≤ (s.2.1.length : Int) → (∀ r, ZI f n (lkn nm) op 7 0 s r → (r.1 = false ∨ ∃ s', r = zok s') → R r) → 302 - s.2.1.length < m → q_Rd_readPar_27 B G P S fi E Q m y z u i w := by
  induction m with
  | zero => intros; omega
  | succ m ih =>
    intro y z u i w s hZ hC y0 y1 hz hu hA i0 i1 hR hm
    have X := hZ.1
    have l3 := X.2.2.2.2.2.1
    have hw := X.2.2.2.1
    have c3 : (w.1 87 3).toInt = (wrd f n s.1).1 := X.2.1.1
    rw [q_Rd_readPar_27.eq_2, c3]
    refine ⟨fun q => by omega, fun _ => ⟨fun q => by omega, fun _ => ⟨fun q => by omega, fun _ => ⟨fun k => hE z u w s (hR _ (ZI_7n k) (Or.inr ⟨s, rfl⟩)) hZ (kch_c hC) hz hu hA, fun k => Eq.mpr (q_Rd_readPar_56.eq_1 _ _ _ _ _ _ _ _ _ _ _ _ _) ?_⟩⟩⟩⟩
    have k := Classical.not_not.mp k
    refine hB _ s w _ (zg_f hZ) (fun r7 w7 r hr o => ?_)
    rcases o with ⟨s', er, Z', ey, et, e88, e89, nn, eN⟩ | ⟨g, W, r0, r1⟩
    · rw [er] at hr
      obtain ⟨Z', K4⟩ := zg_b hZ Z'
      have l4 := Z'.1.2.2.2.2.2.1
      have pre := zg_pre hZ hr
      have kk : s'.2.2.2.1 = s.2.2.2.1 ++ [s'.2.1.length - 1] := by rw [et]
      have a2 : s'.2.2.2.2 = (0, 0, 0) := by
        rw [et]
        exact hA
      have kp := kid_pre pre (l := s.2.2.2.1) hZ.2.2.2.2.2.2.2.2
      have gb := gC_cap (ns := s'.2.1) (s'.2.1.length - 1)
      have s0 := smC_0 (acc := csl s.2.1 []) (fun i => (gC_cap i).1) s.2.2.2.1 1 (by decide)
      have cb := cap_b s0
      have F : FR [(114, none)] w7 (sI w7 114 y.toInt.toNat r7) := FR.I (FR.refl _ w7) rfl
      have Z2 := zg_n (v := r7) Z' (by omega) (by omega) (kch_b hC y0) (kch_n hC y0 hZ.2.2.2.2.2.1 hZ.2.2.2.2.2.2.1 hZ.2.2.2.2.2.2.2.2 hr (Or.inl rfl))
      have C2 : KCh (sI w7 114 y.toInt.toNat r7) oq.2.1 s' fi.toInt r7.toInt := kch_2 hC y0 nn kk ey (fun c hc hn => by
        rw [sI_ne _ _ _ _ _ (by omega)]
        exact K4 c hc) (by rw [sI_same]) (by
        have : y.toInt.toNat < s.2.1.length := by
          rcases hC with ⟨_, _, _⟩ | ⟨_, _, _, _, _, _, _, _⟩ <;> omega
        rw [sI_ne _ _ _ _ _ (by omega), show s'.2.1.length - 1 = r7.toInt.toNat by omega]
        exact eN)
      have f89 : (sI w7 114 y.toInt.toNat r7).1 89 r7.toInt.toNat = w7.1 89 r7.toInt.toNat := (F 89 _ rfl).1
      have sa := ti_add2 hz e88 (by omega) (by omega)
      have ii := ti_add2 (Eq.refl i.toInt) i_1 (by omega) (by omega)
      refine ⟨Z'.1.1.2.2.1, ⟨y0, by omega⟩, ⟨by omega, by omega⟩, ?_⟩
      generalize sI w7 114 y.toInt.toNat r7 = w8 at *
      refine min_x (B := cap (smC (csl s'.2.1 []) 1 s'.2.2.2.1)) sa ?_ (fun r12 e12 => ⟨⟨by omega, by omega⟩, max_x (B := gD (csl s'.2.1 []) (s'.2.1.length - 1)) hu (by rw [f89]; exact e89) (fun r14 e14 => ?_)⟩)
      · rw [kk, smC_1, (kp 1).1, cap_i gb.1]
      · refine ih r7 r12 r14 _ w8 s' Z2 C2 (by omega) (by omega) e12 ?_ a2 (by omega) (by omega) (fun r h7 ho => hR r (ZI_7 k (by
          rcases ho with hf | ⟨s2, e2⟩
          · exact ZE_g hr rfl (ZE_b h7 hf)
          · rw [e2] at h7 ⊢
            exact ZE_g hr rfl (ZE_g h7 rfl (ZE_n _ _ _ _ _)))) ho) (by omega)
        rw [kk, mxD_a, (kp 0).2]
        exact e14
    · have hf := hR r (ZI_7 k (ZE_b hr g)) (Or.inl g)
      have F : FR [(114, none)] w7 (sI w7 114 y.toInt.toNat r7) := FR.I (FR.refl _ w7) rfl
      have W2 := zw_st W F (wbd_114 W.1.1 _ (by omega) (by omega)) rfl
      refine ⟨W.1.2.2.1, ⟨y0, by omega⟩, ⟨r0, r1⟩, min_w (fun r11 => ⟨⟨r0, r1⟩, max_w (fun r13 => ?_)⟩)⟩
      have e0 := W2.2.2.1
      have ew := W2.2.1
      cases m with
      | zero => omega
      | succ m =>
        rw [q_Rd_readPar_27.eq_2]
        exact ⟨fun _ => hb _ _ _ r hf g W2, fun _ => ⟨fun _ => hb _ _ _ r hf g W2, fun q => absurd (show 0 ≤ ((sI w7 114 y.toInt.toNat r7).1 87 9).toInt by omega) q⟩⟩
theorem c_par {oq : OQ} {B P S : MW → (Int32 → MW → Prop) → Prop} {G : MW → Int32 → (Int32 → MW → Prop) → Prop} {w : MW} {f : Int → Int} {n : Int} {nm : List Nm} {op jj : Nat} {s1 : ZS} {Q : Int32 → MW → Prop} (hB : ∀ oq : OQ, HCm B 4 op jj f n oq nm) (hZ : ZG w f n oq nm op jj s1) (h0 : s1.2.2.2.1 = []) (hA : s1.2.2.2.2 = (0, 0, 0)) (bad : CBd f n nm op [(4, 0), (4, 0), (7, 0)] s1 Q) (good : CGd f n oq nm op jj 16 [(4, 0), (4, 0), (7, 0)] s1 Q) : pb_Rd_readPar B G P S w Q := by
  have fu : (1000 : Nat) < FU := fu_lt (by decide)
  have out : ∀ (fi z u : Int32) (w' : MW) (r : ZR), ZE f n (lkn nm) op [(4, 0), (4, 0), (7, 0)] s1 r → r.1 = false → ZW w' f n nm op r.2.1 → 0 ≤ fi.toInt → fi.toInt < 301 → p_Rd_makeNode w' 16 0 (fun r16 w16 => ((w16.2.2 87 1 = some 108) ∧ ((0 ≤ r16.toInt ∧ r16.toInt < 301) ∧ ((0 ≤ r16.toInt ∧ r16.toInt < 301) ∧ ((0 ≤ r16.toInt ∧ r16.toInt < 301) ∧ (Q r16 (sI (sI (sI w16 113 r16.toInt.toNat fi) 88 r16.toInt.toNat z) 89 r16.toInt.toNat u))))))) := fun fi z u w' r hE hf W f0 f1 => cw_mk W (fun r16 w16 r0 r1 W16 => by
    have F : FR [(88, none), (89, none), (113, none)] w16 (sI (sI (sI w16 113 r16.toInt.toNat fi) 88 r16.toInt.toNat z) 89 r16.toInt.toNat u) := FR.I (FR.I (FR.I (FR.refl _ w16) rfl) rfl) rfl
    exact ⟨W16.1.2.2.1, ⟨r0, r1⟩, ⟨r0, r1⟩, ⟨r0, r1⟩, bad _ _ r hE hf (zw_st W16 F (wbd_89 (wbd_88 (wbd_113 W16.1.1 _ (by omega) (by omega)) _) _) rfl) r0 r1⟩)
  refine Eq.mpr (pb_Rd_readPar.eq_1 _ _ _ _ _ _) (hB oq s1 w _ hZ (fun r1 w1 r hr o => ?_))
  rcases o with ⟨s2, er, Z2, ey, et, e88, e89, nn, eN2⟩ | ⟨g, W, r0, rr1⟩
  · rw [er] at hr
    have l2 := Z2.1.2.2.2.2.2.1
    have hw := Z2.1.2.2.2.1
    have k2 : s2.2.2.2.1 = [s2.2.1.length - 1] := by
      rw [et, h0]
      rfl
    have a2 : s2.2.2.2.2 = (0, 0, 0) := by
      rw [et]
      exact hA
    have C2 : KCh w1 oq.2.1 s2 r1.toInt r1.toInt := kch_1 (w := w) (s := s1) (x := -1) (y := -1) (Or.inl ⟨h0, rfl, rfl⟩) (by decide) (by rw [et]) ey (by have := hZ.2.1.2.2.1; omega) (by rw [show s2.2.1.length - 1 = r1.toInt.toNat by omega]; exact eN2)
    have gb2 := gC_cap (ns := s2.2.1) (s2.2.1.length - 1)
    have sa2 := ti_add2 i_1 e88 (by omega) (by omega)
    have fi0 : 0 ≤ r1.toInt ∧ r1.toInt < 301 := ⟨by omega, by omega⟩
    refine ⟨fi0, fi0, ?_⟩
    have gd2 := gD_b Z2.2.2.2.2.2.1 (s2.2.1.length - 1) (by omega)
    generalize hFU : FU = F0 at *
    cases F0 with
    | zero => omega
    | succ F0 =>
      rw [q_Rd_readPar_27.eq_2]
      refine ⟨fun q => absurd q (by decide), fun _ => ⟨fun q => by omega, fun _ => ⟨fun _ => Eq.mpr (q_Rd_readPar_56.eq_1 _ _ _ _ _ _ _ _ _ _ _ _ _) ?_, fun q => absurd i_0 q⟩⟩⟩
      refine hB _ s2 w1 _ (zg_f Z2) (fun r7 w7 r hr2 o2 => ?_)
      rcases o2 with ⟨s3, er3, Z3, ey3, et3, f88, f89, nn3, eN3⟩ | ⟨g, W, r0, rr1⟩
      · rw [er3] at hr2
        obtain ⟨Z3, K4⟩ := zg_b Z2 Z3
        have l4 := Z3.1.2.2.2.2.2.1
        have pre := zg_pre Z2 hr2
        have kk : s3.2.2.2.1 = s2.2.2.2.1 ++ [s3.2.1.length - 1] := by rw [et3]
        have a3 : s3.2.2.2.2 = (0, 0, 0) := by
          rw [et3]
          exact a2
        have kp := kid_pre pre (l := s2.2.2.2.1) Z2.2.2.2.2.2.2.2.2
        have gb := gC_cap (ns := s3.2.1) (s3.2.1.length - 1)
        have F : FR [(114, none)] w7 (sI w7 114 r1.toInt.toNat r7) := FR.I (FR.refl _ w7) rfl
        have r10 : 0 ≤ r1.toInt := by omega
        have Z4 := zg_n (v := r7) Z3 (by omega) (by omega) (kch_b C2 r10) (kch_n C2 r10 Z2.2.2.2.2.2.1 Z2.2.2.2.2.2.2.1 Z2.2.2.2.2.2.2.2.2 hr2 (Or.inl rfl))
        have C4 : KCh (sI w7 114 r1.toInt.toNat r7) oq.2.1 s3 r1.toInt r7.toInt := kch_2 C2 r10 nn3 kk ey3 (fun c hc hn => by
          rw [sI_ne _ _ _ _ _ (by omega)]
          exact K4 c hc) (by rw [sI_same]) (by
          rw [sI_ne _ _ _ _ _ (by omega), show s3.2.1.length - 1 = r7.toInt.toNat by omega]
          exact eN3)
        have g89 : (sI w7 114 r1.toInt.toNat r7).1 89 r7.toInt.toNat = w7.1 89 r7.toInt.toNat := (F 89 _ rfl).1
        have sa := ti_add2 sa2 f88 (by omega) (by omega)
        refine ⟨Z3.1.1.2.2.1, ⟨by omega, by omega⟩, ⟨by omega, by omega⟩, ?_⟩
        generalize sI w7 114 r1.toInt.toNat r7 = w8 at *
        refine min_x (B := cap (smC (csl s3.2.1 []) 1 s3.2.2.2.1)) sa ?_ (fun r12 e12 => ⟨⟨by omega, by omega⟩, max_x (B := gD (csl s3.2.1 []) (s3.2.1.length - 1)) e89 (by rw [g89]; exact f89) (fun r14 e14 => ?_)⟩)
        · rw [kk, smC_1, (kp 1).1, k2]
          rfl
        · refine cp_27 (R := fun r => ZI f n (lkn nm) op 7 0 s3 r) hB (fun z u w' r h7 hf W => out r1 z u w' r (ZE_g hr rfl (ZE_g hr2 rfl (ZE_b h7 hf))) hf W fi0.1 fi0.2) (fun z u w' s' h7 Z' hch ez eu a' => ?_) F0 r7 r12 r14 _ w8 s3 Z4 C4 (by omega) (by omega) e12 ?_ a3 (by decide) (by rw [show ((0 : Int32) + (1 : Int32)).toInt = 1 by decide]; omega) (fun r h7 _ => h7) (by omega)
          · have hE : ZE f n (lkn nm) op [(4, 0), (4, 0), (7, 0)] s1 (zok s') := ZE_g hr rfl (ZE_g hr2 rfl (ZE_g h7 rfl (ZE_n _ _ _ _ _)))
            have cs : cs1 (csl s'.2.1 []) (16, s'.2.2.2.2.1, s'.2.2.2.2.2.2, s'.2.2.2.1) = (cap (smC (csl s'.2.1 []) 1 s'.2.2.2.1), mxD (csl s'.2.1 []) 0 s'.2.2.2.1) := by
              unfold cs1
              rw [if_neg (show ¬ (16 : Int) = 23 by decide)]
              show (cap (smC (csl s'.2.1 []) (own 16) s'.2.2.2.1), mxD (csl s'.2.1 []) 0 s'.2.2.2.1 + (if (16 : Int) = 35 then 1 else 0)) = _
              rw [if_neg (by decide), show own 16 = 1 by decide, Int.add_zero]
            exact cm_st (d := (16, s'.2.2.2.2.1, s'.2.2.2.2.2.2, s'.2.2.2.1)) Z' (show (16 : Int32).toInt = 16 by decide) (by rw [a']; show (0 : Int32).toInt = 0; decide) (show ¬ (16 : Int) = 31 by decide) (by omega) (by omega) (show nxp 16 = 0 by decide) (fun c hc => Z'.2.2.2.2.2.2.2.2 c hc) hch (by rw [cs]; exact ez) (by rw [cs]; exact eu) (fun y w2 o => good y w' w2 s' hE Z' o)
          · rw [kk, mxD_a, (kp 0).2, k2]
            show r14.toInt = mxD (csl s3.2.1 []) (if gD (csl s2.2.1 []) (s2.2.1.length - 1) ≤ 0 then 0 else gD (csl s2.2.1 []) (s2.2.1.length - 1)) [s3.2.1.length - 1]
            rw [show (if gD (csl s2.2.1 []) (s2.2.1.length - 1) ≤ 0 then 0 else gD (csl s2.2.1 []) (s2.2.1.length - 1)) = gD (csl s2.2.1 []) (s2.2.1.length - 1) by
              by_cases q : gD (csl s2.2.1 []) (s2.2.1.length - 1) ≤ 0
              · rw [if_pos q]
                omega
              · rw [if_neg q]]
            exact e14
      · have hE : ZE f n (lkn nm) op [(4, 0), (4, 0), (7, 0)] s1 r := ZE_g hr rfl (ZE_b hr2 g)
        have F : FR [(114, none)] w7 (sI w7 114 r1.toInt.toNat r7) := FR.I (FR.refl _ w7) rfl
        have W2 := zw_st W F (wbd_114 W.1.1 _ (by omega) (by omega)) rfl
        refine ⟨W.1.2.2.1, ⟨by omega, by omega⟩, ⟨r0, rr1⟩, min_w (fun r11 => ⟨⟨r0, rr1⟩, max_w (fun r13 => ?_)⟩)⟩
        have e0 := W2.2.2.1
        have ew := W2.2.1
        cases F0 with
        | zero => omega
        | succ F0 =>
          rw [q_Rd_readPar_27.eq_2]
          exact ⟨fun _ => out _ _ _ _ r hE g W2 fi0.1 fi0.2, fun _ => ⟨fun _ => out _ _ _ _ r hE g W2 fi0.1 fi0.2, fun q => absurd (show 0 ≤ ((sI w7 114 r1.toInt.toNat r7).1 87 9).toInt by omega) q⟩⟩
  · have hE : ZE f n (lkn nm) op [(4, 0), (4, 0), (7, 0)] s1 r := ZE_b hr g
    have e0 := W.2.2.1
    have ew := W.2.1
    refine ⟨⟨r0, rr1⟩, ⟨r0, rr1⟩, ?_⟩
    generalize hFU : FU = F0 at *
    cases F0 with
    | zero => omega
    | succ F0 =>
      rw [q_Rd_readPar_27.eq_2]
      exact ⟨fun q => absurd q (by decide), fun _ => ⟨fun _ => out _ _ _ _ r hE g W r0 rr1, fun q => absurd (show 0 ≤ (w1.1 87 9).toInt by omega) q⟩⟩
theorem xs_c0 {w : MW} {f : Int → Int} {n : Int} {nm : List Nm} {op : Nat} {p : Int} {ns : List Nod} {v : Int32} (h : XS w f n nm op p ns) : XS (sI w 108 0 v) f n nm op p ns := by
  have F : FR [(108, some 0)] w (sI w 108 0 v) := FR.I (FR.refl _ w) rfl
  refine ⟨xb_fr h.1 F (wbd_108_0 h.1.1) (by rw [(F 87 2 rfl).1]; exact h.1.2.2.2.2.2.2.2.2) rfl, tkc_fr h.2.1 F rfl, h.2.2.1, by rw [(F 87 9 rfl).1]; exact h.2.2.2.1, ⟨by rw [(F 108 1 rfl).1]; exact h.2.2.2.2.1.1, fun i d hd => ?_⟩, h.2.2.2.2.2⟩
  have t := h.2.2.2.2.1.2 i d hd
  rw [(F 109 i rfl).1, (F 110 i rfl).1, (F 115 i rfl).2.1]
  exact t
/-- a statement -/
theorem c_stm {oq : OQ} {B P S : MW → (Int32 → MW → Prop) → Prop} {G : MW → Int32 → (Int32 → MW → Prop) → Prop} {f : Int → Int} {n : Int} {nm : List Nm} {op j : Nat} (ho : op ≤ 20) (hj : j ≤ op) (hP : ∀ (w : MW) (s1 : ZS) (Q : Int32 → MW → Prop), ZG w f n oq nm op (j + 1) s1 → s1.2.2.2.1 = [] → s1.2.2.2.2 = (0, 0, 0) → CBd f n nm op [(4, 0), (4, 0), (7, 0)] s1 Q → CGd f n oq nm op (j + 1) 16 [(4, 0), (4, 0), (7, 0)] s1 Q → P w Q) (hG : ∀ (w : MW) (s1 : ZS) (k : Int) (a : Int32) (Q : Int32 → MW → Prop), ZG w f n oq nm op (j + 1) s1 → (k = 17 ∨ k = 19 ∨ k = 20) → a.toInt = k → s1.2.2.2.1 = [] → s1.2.2.2.2 = (0, 0, 0) → CBd f n nm op (its k) s1 Q → CGd f n oq nm op (j + 1) k (its k) s1 Q → G w a Q) (hPw : ∀ (e : Int) (w : MW) (Q : Int32 → MW → Prop), ZW w f n nm op e → (∀ (y : Int32) (w' : MW), ZW w' f n nm op e → 0 ≤ y.toInt → y.toInt < 301 → Q y w') → P w Q) (hGw : ∀ (e : Int) (w : MW) (a : Int32) (Q : Int32 → MW → Prop), ZW w f n nm op e → (∀ (y : Int32) (w' : MW), ZW w' f n nm op e → 0 ≤ y.toInt → y.toInt < 301 → Q y w') → G w a Q) : HCm (pb_Rd_readStatement B G P S) 9 op j f n oq nm := by
  intro s w Q hZ hQ
  have X := hZ.1
  have hw := X.2.2.2.1
  have l3 := X.2.2.2.2.2.1
  have c3 : (w.1 87 3).toInt = (wrd f n s.1).1 := X.2.1.1
  have nob : ¬ isS (wrd f n s.1).1 = true → p_Rd_fail w (fun w4 => (Q 0 w4)) := fun no => fl_g X (fun w' F' X' => hQ 0 w' (zer (wrd f n s.1).2.1) (ZI_9b no) (Or.inr ⟨rfl, zw_of X', by decide, by decide⟩))
  have no2 : ∀ P : Prop, (isS (wrd f n s.1).1 = true → P → False) → P → p_Rd_fail w (fun w4 => (Q 0 w4)) := fun P h p => nob (fun z => h z p)
  have m0 := hZ.2.2.1
  have m1 := hZ.2.2.2.1
  have sc := ti_add2 hZ.2.1.1 i_1 (by omega) (by omega)
  have F1 : FR [(108, some 0)] w (sI w 108 0 ((w.1 108 0) + (1 : Int32))) := FR.I (FR.refl _ w) rfl
  have Z1 : ZG (sI w 108 0 ((w.1 108 0) + (1 : Int32))) f n oq nm op (j + 1) (zin s) := ⟨xs_c0 X, ⟨by rw [sI_same, sc]; show s.2.2.1 + (j : Int) + 1 = s.2.2.1 + ((j + 1 : Nat) : Int); omega, fq_k hZ.2.1.2 (F1 108 2 rfl).1 (fun i _ => (F1 114 i rfl).1) (Nat.le_refl _)⟩, m0, m1, szc_k hZ.2.2.2.2.1 (fr_89 F1 rfl _), hZ.2.2.2.2.2.1, hZ.2.2.2.2.2.2.1, hZ.2.2.2.2.2.2.2.1, fun c hc => (by cases hc)⟩
  rw [pb_Rd_readStatement.eq_1, c3]
  refine ⟨fun z => absurd z (by omega), fun _ => ⟨fun q => nob (fun z => by have := isS_t.mp z; omega), fun g11 => ⟨fun l26 => ⟨fun q => nob (fun z => by have := isS_t.mp z; omega), fun n15 => ⟨fun q => nob (fun z => by have := isS_t.mp z; omega), fun n18 => ⟨fun n21 => ⟨X.1.2.2.1, ?_⟩, fun q => nob (fun z => by have := isS_t.mp z; have := Classical.not_not.mp q; omega)⟩⟩⟩, fun q => nob (fun z => by have := isS_t.mp z; omega)⟩⟩⟩
  have yes : isS (wrd f n s.1).1 = true := isS_t.mpr (by omega)
  refine ct_go Z1 rfl (fun w' r hz hf W => ?_) (fun v s1 hz es F6 Zv => ?_)
  · have bd : ∀ y : Int32, 0 ≤ y.toInt → y.toInt < 301 → ∀ w2, ZW w2 f n nm op r.2.1 → Q y w2 := fun y y0 y1 w2 W2 => hQ y w2 r (ZI_9 yes (ZE_b hz hf) (by rw [if_neg (by rw [hf]; decide)])) (Or.inr ⟨hf, W2, y0, y1⟩)
    have q : ∀ (y : Int32) (w2 : MW), ZW w2 f n nm op r.2.1 → 0 ≤ y.toInt → y.toInt < 301 → Q y w2 := fun y w2 W2 y0 y1 => bd y y0 y1 w2 W2
    exact ⟨fun _ => cw_chg W q, fun _ => ⟨fun _ => cw_pau W q, fun _ => ⟨fun _ => cw_pau W q, fun _ => ⟨fun _ => cw_chg W q, fun _ => ⟨fun k => absurd k n15, fun _ => ⟨fun _ => hPw _ w' _ W q, fun _ => ⟨fun _ => hGw _ w' _ _ W q, fun _ => ⟨fun k => absurd k n18, fun _ => ⟨fun _ => hGw _ w' _ _ W q, fun _ => ⟨fun _ => hGw _ w' _ _ W q, fun _ => cw_sho W q⟩⟩⟩⟩⟩⟩⟩⟩⟩⟩
  · have h0 : s1.2.2.2.1 = [] := by rw [es]; rfl
    have hA : s1.2.2.2.2 = (0, 0, 0) := by rw [es]; rfl
    have bad : ∀ L : List (Int × Int), its (wrd f n s.1).1 = L → CBd f n nm op L s1 Q := fun L el y w' r hE hf W y0 y1 => hQ y w' r (ZI_9 yes (by rw [el]; exact ZE_g hz rfl hE) (by rw [if_neg (by rw [hf]; decide)])) (Or.inr ⟨hf, W, y0, y1⟩)
    have good : ∀ L : List (Int × Int), its (wrd f n s.1).1 = L → CGd f n oq nm op (j + 1) (wrd f n s.1).1 L s1 Q := fun L el y w9 w' t hE Z9 o => by
      have hE2 : ZE f n (lkn nm) op ((0, (wrd f n s.1).1) :: its (wrd f n s.1).1) (zin s) (zok t) := by
        rw [el]
        exact ZE_g hz rfl hE
      obtain ⟨kk, hk⟩ := id hE2
      have wf := ZZ_wf f n (lkn nm) kk _ _ _ _ hk rfl hZ.2.2.2.2.2.1 hZ.2.2.2.2.2.2.1 (fun c hc => (by cases hc))
      have lo := ZZ_lo f n (lkn nm) kk _ _ _ _ hk rfl hZ.2.2.2.2.2.1 hZ.2.2.2.2.2.2.1 (fun c hc => (by cases hc)) s.2.1.length (Nat.le_refl _) (fun c hc => (by cases hc))
      refine mko_cr (m := 1) (c := 9) (op' := op) (s := s) Z9 (by show ((j + 1 : Nat) : Int) = 1 + (j : Int); omega) (by decide) (by decide) o (fun c hc => Z9.2.2.2.2.2.2.2.2 c hc) (fun c hc => by
        have a : s.2.1.length ≤ c := lo.2 c hc
        have b := hZ.2.1.2.2.1
        omega) (fun z => ?_) hZ.2.2.2.2.2.2.2.2 wf.2.1 (fun r er => ZI_9 yes hE2 (by
        show (if true = true then _ else _)
        rw [if_pos rfl]
        exact er)) hQ
      have z' : (wrd f n s.1).1 = 23 := z
      rw [z'] at hk
      have dd := zz_do hk rfl
      obtain ⟨l, u, el2, e0⟩ := dd.2
      have bb := Z9.2.2.2.2.2.2.1 l (by rw [el2]; exact e0) (by rw [el2])
      rw [el2] at bb
      exact ⟨dd.1, ⟨l, u, el2, e0⟩, bb⟩
    have c3' : ∀ c : Int, (wrd f n s.1).1 = c → (w.1 87 3).toInt = c := fun c e => c3.trans e
    refine ⟨fun k => ?_, fun _ => ⟨fun k => ?_, fun _ => ⟨fun k => ?_, fun _ => ⟨fun k => ?_, fun _ => ⟨fun k => absurd k n15, fun _ => ⟨fun k => ?_, fun _ => ⟨fun k => ?_, fun _ => ⟨fun k => absurd k n18, fun _ => ⟨fun k => ?_, fun _ => ⟨fun k => ?_, fun n20 => ?_⟩⟩⟩⟩⟩⟩⟩⟩⟩⟩
    · have g := good _ rfl
      have b := bad _ rfl
      rw [k] at g b
      exact ck_chg (k := 11) Zv ho (c3' _ k) h0 (Or.inl ⟨rfl, rfl⟩) b g
    · have g := good _ rfl
      have b := bad _ rfl
      rw [k] at g b
      exact ck_wait Zv ho (c3' _ k) h0 hA b g
    · have g := good _ rfl
      have b := bad _ rfl
      rw [k] at g b
      exact ck_until Zv ho (c3' _ k) h0 hA b g
    · have g := good _ rfl
      have b := bad _ rfl
      rw [k] at g b
      exact ck_chg (k := 14) Zv ho (c3' _ k) h0 (Or.inr ⟨rfl, rfl⟩) b g
    · have g := good _ rfl
      have b := bad _ rfl
      rw [k] at g b
      exact hP v s1 _ Zv h0 hA b g
    · have g := good _ rfl
      have b := bad _ rfl
      rw [k] at g b
      exact hG v s1 17 _ _ Zv (by decide) (c3' _ k) h0 hA b g
    · have g := good _ rfl
      have b := bad _ rfl
      rw [k] at g b
      exact hG v s1 19 _ _ Zv (by decide) (c3' _ k) h0 hA b g
    · have g := good _ rfl
      have b := bad _ rfl
      rw [k] at g b
      exact hG v s1 20 _ _ Zv (by decide) (c3' _ k) h0 hA b g
    · exact ck_short (k := (wrd f n s.1).1) Zv (by omega) c3 h0 hA (bad _ rfl) (good _ rfl)
theorem cw_blk {B P S : MW → (Int32 → MW → Prop) → Prop} {G : MW → Int32 → (Int32 → MW → Prop) → Prop} {w : MW} {f : Int → Int} {n : Int} {nm : List Nm} {op : Nat} {e : Int} {Q : Int32 → MW → Prop} (h : ZW w f n nm op e) (hQ : Q 0 w) : pb_Rd_readBlock B G P S w Q := by
  have e0 := h.2.2.1
  have ew := h.2.1
  exact Eq.mpr (pb_Rd_readBlock.eq_1 _ _ _ _ _ _) ⟨fun _ => fl_w h hQ, fun q => absurd (show 0 ≤ (w.1 87 9).toInt by omega) q⟩
/-- blocks and statements at every depth -/
theorem c_bs (f : Int → Int) (n : Int) (nm : List Nm) (d : Nat) : (∀ (oq : OQ) (op j : Nat), op ≤ 20 → j ≤ op + 1 → 3 * (20 - op) + 1 ≤ d → HCm (pn_Rd_readBlock d) 4 op j f n oq nm) ∧ (∀ (oq : OQ) (op j : Nat) (w : MW) (s1 : ZS) (k : Int) (a : Int32) (Q : Int32 → MW → Prop), op ≤ 20 → j ≤ op + 1 → 3 * (20 - op) + 2 ≤ d → ZG w f n oq nm op j s1 → (k = 17 ∨ k = 19 ∨ k = 20) → a.toInt = k → s1.2.2.2.1 = [] → s1.2.2.2.2 = (0, 0, 0) → CBd f n nm op (its k) s1 Q → CGd f n oq nm op j k (its k) s1 Q → pn_Rd_readGuarded d w a Q) ∧ (∀ (oq : OQ) (op j : Nat) (w : MW) (s1 : ZS) (Q : Int32 → MW → Prop), op ≤ 20 → j ≤ op + 1 → 3 * (20 - op) + 2 ≤ d → ZG w f n oq nm op j s1 → s1.2.2.2.1 = [] → s1.2.2.2.2 = (0, 0, 0) → CBd f n nm op [(4, 0), (4, 0), (7, 0)] s1 Q → CGd f n oq nm op j 16 [(4, 0), (4, 0), (7, 0)] s1 Q → pn_Rd_readPar d w Q) ∧ (∀ (oq : OQ) (op j : Nat), op ≤ 20 → j ≤ op → 3 * (20 - op) + 3 ≤ d → HCm (pn_Rd_readStatement d) 9 op j f n oq nm) ∧ (1 ≤ d → ∀ (op : Nat) (e : Int) (w : MW) (Q : Int32 → MW → Prop), ZW w f n nm op e → Q 0 w → pn_Rd_readBlock d w Q) ∧ (2 ≤ d → ∀ (op : Nat) (e : Int) (w : MW) (Q : Int32 → MW → Prop), ZW w f n nm op e → (∀ (y : Int32) (w' : MW), ZW w' f n nm op e → 0 ≤ y.toInt → y.toInt < 301 → Q y w') → pn_Rd_readPar d w Q) ∧ (2 ≤ d → ∀ (op : Nat) (e : Int) (w : MW) (a : Int32) (Q : Int32 → MW → Prop), ZW w f n nm op e → (∀ (y : Int32) (w' : MW), ZW w' f n nm op e → 0 ≤ y.toInt → y.toInt < 301 → Q y w') → pn_Rd_readGuarded d w a Q) := by
  induction d with
  | zero => exact ⟨fun _ _ _ _ _ h => by omega, fun _ _ _ _ _ _ _ _ _ _ h => by omega, fun _ _ _ _ _ _ _ _ h => by omega, fun _ _ _ _ _ h => by omega, fun h => by omega, fun h => by omega, fun h => by omega⟩
  | succ d ih =>
    refine ⟨fun oq op j ho hj hd s w Q hZ hQ => ?_, fun oq op j w s1 k a Q ho hj hd hZ hk ha h0 hA bad good => ?_, fun oq op j w s1 Q ho hj hd hZ h0 hA bad good => ?_, fun oq op j ho hj hd s w Q hZ hQ => ?_, fun _ op e w Q h hQ => ?_, fun hd op e w Q h hQ => ?_, fun hd op e w a Q h hQ => ?_⟩
    · rw [pe_Rd_readBlock]
      exact c_blk ho (fun o oq => ih.2.2.2.1 oq (op + 1) j (by omega) (by omega) (by omega)) s w Q hZ hQ
    · rw [pe_Rd_readGuarded]
      exact c_gua (fun oq => ih.1 oq op j ho hj (by omega)) (fun e w Q W q => ih.2.2.2.2.1 (by omega) op e w Q W q) hZ ho hk ha h0 hA bad good
    · rw [pe_Rd_readPar]
      exact c_par (fun oq => ih.1 oq op j ho hj (by omega)) hZ h0 hA bad good
    · rw [pe_Rd_readStatement]
      exact c_stm ho hj (fun w s1 Q hZ h0 hA bad good => ih.2.2.1 oq op (j + 1) w s1 Q ho (by omega) (by omega) hZ h0 hA bad good) (fun w s1 k a Q hZ hk ha h0 hA bad good => ih.2.1 oq op (j + 1) w s1 k a Q ho (by omega) (by omega) hZ hk ha h0 hA bad good) (fun e w Q W q => ih.2.2.2.2.2.1 (by omega) op e w Q W q) (fun e w a Q W q => ih.2.2.2.2.2.2 (by omega) op e w a Q W q) s w Q hZ hQ
    · rw [pe_Rd_readBlock]
      exact cw_blk h hQ
    · rw [pe_Rd_readPar]
      exact cw_par (fun e w Q W q => ih.2.2.2.2.1 (by omega) op e w Q W q) h hQ
    · rw [pe_Rd_readGuarded]
      exact cw_gua (fun e w Q W q => ih.2.2.2.2.1 (by omega) op e w Q W q) h hQ
/-- THE CLASS READS A BLOCK exactly -/
theorem c_block {oq : OQ} {f : Int → Int} {n : Int} {nm : List Nm} {op j : Nat} (ho : op ≤ 20) (hj : j ≤ op + 1) : HCm p_Rd_readBlock 4 op j f n oq nm := (c_bs f n nm 400).1 oq op j ho hj (by omega)
/-- THE CLASS READS A STATEMENT exactly -/
theorem c_statement {oq : OQ} {f : Int → Int} {n : Int} {nm : List Nm} {op j : Nat} (ho : op ≤ 20) (hj : j ≤ op) : HCm p_Rd_readStatement 9 op j f n oq nm := (c_bs f n nm 400).2.2.2.1 oq op j ho hj (by omega)
theorem cw_block {f : Int → Int} {n e : Int} {nm : List Nm} {op : Nat} {w : MW} {Q : Int32 → MW → Prop} (h : ZW w f n nm op e) (hQ : Q 0 w) : p_Rd_readBlock w Q := (c_bs f n nm 400).2.2.2.2.1 (by decide) op e w Q h hQ
