/-! the reference reads statements and blocks -/
/-- a statement's node -/
theorem y_fin {w v : MW} {f : Int → Int} {n : Int} {nm : List Nm} {op : Nat} {e k : Int} {s s1 : ZS} {wh ln : Int32} {L : List (Int × Int)} {Q : Int32 → MW → Prop} (hk : isS k = true) (ek : (wrd f n s.1).1 = k) (hw : wh.toInt = mng k) (hs : YS w f n nm op e s.1 s.2.1) (KX1 : KX w v) (p1 : s.1 ≤ s1.1) (h1 : ∀ r1, ZE f n (lkn nm) op L s1 r1 → ZE f n (lkn nm) op ((0, k) :: its k) (zin s) r1) (hQ : ∀ (y : Int32) (w' : MW) (r : ZR), ZI f n (lkn nm) op 9 0 s r → YR w w' f n nm op e s r y → Q y w') : YGd f n nm op e (w.1 129 35).toInt L s1 v wh ln Q := by
  intro w9 s9 nn hE Z9 K9 en p9
  have ws := wht_st k hk
  have F : FR [(129, some 38)] w9 (sI w9 129 38 ((w9.1 129 38) + (1 : Int32))) := FR.I (FR.refl _ w9) rfl
  have hB : BND (sI w9 129 38 ((w9.1 129 38) + (1 : Int32))) := wbd_129_38 Z9.1.1.1.1
  have l9 := ys_len Z9.1
  have m9 := Z9.2.2.1
  have m0 := Z9.2.2.2.1
  have m1 := Z9.2.2.2.2
  have sm := ti_add2 m9 i_1 (by omega) (by omega)
  have e38 : (sI w9 129 38 ((w9.1 129 38) + (1 : Int32))).1 129 38 = (w9.1 129 38) + (1 : Int32) := sI_same _ _ _ _
  have Y9 : YS (sI w9 129 38 ((w9.1 129 38) + (1 : Int32))) f n nm op e s9.1 s9.2.1 := by
    refine ⟨yb_fr Z9.1.1 F (yj_fr Z9.1.1.1 F hB rfl) rfl, ?_, Z9.1.2.2.1, pnm_k Z9.1.2.2.2.1 (KNm.fr F rfl) Z9.1.1.1.1 (F 129 13 rfl).1, Z9.1.2.2.2.2⟩
    have t := Z9.1.2.1
    unfold TkM at t ⊢
    rw [(F 129 4 rfl).1, (F 129 5 rfl).1, (F 129 2 rfl).1, (F 129 6 rfl).1, (F 129 8 rfl).2.1, (F 129 9 rfl).1]
    exact t
  have P9 : PiL (sI w9 129 38 ((w9.1 129 38) + (1 : Int32))) (w.1 129 35).toInt s9.2.2.2.1 := ⟨by rw [(F 129 35 rfl).1]; exact Z9.2.1.1, Z9.2.1.2.1, fun i c hi => by rw [(F 144 _ rfl).1]; exact Z9.2.1.2.2 i c hi⟩
  have KF : KNm w9 (sI w9 129 38 ((w9.1 129 38) + (1 : Int32))) := KNm.fr F rfl
  have q144 : ∀ j, (sI w9 129 38 ((w9.1 129 38) + (1 : Int32))).1 144 j = w9.1 144 j := fun j => (F 144 j rfl).1
  generalize (sI w9 129 38 ((w9.1 129 38) + (1 : Int32))) = w10 at *
  have all : ∀ r, (if (zok s9).1 = true then r = znd f n s (zok s9).2.2 1 ((wrd f n s.1).1, (zok s9).2.2.2.2.2.2.1, (zok s9).2.2.2.2.2.2.2.2, (zok s9).2.2.2.2.2.1) else r = zok s9) → ZI f n (lkn nm) op 9 0 s r := fun r hr => ZI_9 (by rw [ek]; exact hk) (by rw [ek]; exact h1 _ hE) hr
  have e13 := hs.2.2.2.1.1
  have e913 := Z9.1.2.2.2.1.1
  have g13 := K9.1.2.1
  have g13' := KX1.1.2.1
  refine y_node (d := (k, s9.2.2.2.2.1, s9.2.2.2.2.2.2, s9.2.2.2.1)) (lo := (w.1 129 35).toInt) Y9 (by rw [hw]; exact ws.1.symm) (show 0 ≤ wht k by rw [ws.1]; omega) (show wht k ≤ 24 by rw [ws.1]; omega) (by decide) (by decide) (by rw [KX1.2.1]) P9 (fun z => absurd z ws.2.2.2.1) (fun _ _ => by rw [nb_i2l]; exact en) (fun n3 w' e' => hQ (-1) w' (zer (wrd f n s9.1).2.1) (all _ ?_) (Or.inr ⟨rfl, by decide, e'⟩)) (fun n3 r w' er Y' KN e35 kp _ f38 _ => hQ r w' (zok (s9.1, s9.2.1 ++ [(k, s9.2.2.2.2.1, s9.2.2.2.2.2.2, s9.2.2.2.1)], s9.2.2.1 + 1, s.2.2.2.1 ++ [s9.2.1.length], s.2.2.2.2)) (all _ ?_) (Or.inl ⟨_, rfl, Y', ?_, ((KX1.1.tr K9.1).tr KF).tr KN, e35.trans KX1.2.1, fun j j0 j1 => ?_, ?_, ?_, ?_, ?_, ?_, ?_, ?_⟩))
  · show (if true = true then _ else _)
    rw [if_pos rfl]
    show zer (wrd f n s9.1).2.1 = znd f n s s9 1 _
    unfold znd
    rw [if_pos n3]
  · show (if true = true then _ else _)
    rw [if_pos rfl]
    show _ = znd f n s s9 1 ((wrd f n s.1).1, s9.2.2.2.2.1, s9.2.2.2.2.2.2, s9.2.2.2.1)
    unfold znd
    rw [if_neg n3, ek]
  · show r.toInt + 1 = ((s9.2.1 ++ [(k, s9.2.2.2.2.1, s9.2.2.2.2.2.2, s9.2.2.2.1)]).length : Int)
    rw [List.length_append, List.length_singleton]
    omega
  · rw [kp, q144, K9.2 j j0 j1, KX1.2.2.1 j j0 j1]
  · show (w'.1 129 38).toInt = s9.2.2.1 + 1
    rw [f38, e38, sm]
  · show 0 ≤ s9.2.2.1 + 1
    omega
  · show s9.2.2.1 + 1 ≤ ((s9.2.1 ++ [(k, s9.2.2.2.2.1, s9.2.2.2.2.2.2, s9.2.2.2.1)]).length : Int)
    rw [List.length_append, List.length_singleton]
    omega
  · show s.1 ≤ s9.1
    omega
  · show s.2.1.length < (s9.2.1 ++ [(k, s9.2.2.2.2.1, s9.2.2.2.2.2.2, s9.2.2.2.1)]).length
    rw [List.length_append, List.length_singleton]
    omega
  · show (s.2.2.2.1 ++ [s9.2.1.length], s.2.2.2.2) = (s.2.2.2.1 ++ [(s9.2.1 ++ [(k, s9.2.2.2.2.1, s9.2.2.2.2.2.2, s9.2.2.2.1)]).length - 1], s.2.2.2.2)
    rw [List.length_append, List.length_singleton, Nat.add_sub_cancel]
  · have t := (Y'.2.2.2.1.2 s9.2.1.length (k, s9.2.2.2.2.1, s9.2.2.2.2.2.2, s9.2.2.2.1) (by rw [List.getElem?_append_right (Nat.le_refl _), Nat.sub_self]; rfl)).1
    rw [er, t]
    show wht k ≤ 23
    rw [ws.1]
    omega
theorem y_fbad {f : Int → Int} {n : Int} {nm : List Nm} {op : Nat} {e k : Int} {s s1 : ZS} {w : MW} {L : List (Int × Int)} {Q : Int32 → MW → Prop} (hk : isS k = true) (ek : (wrd f n s.1).1 = k) (h1 : ∀ r1, ZE f n (lkn nm) op L s1 r1 → ZE f n (lkn nm) op ((0, k) :: its k) (zin s) r1) (hQ : ∀ (y : Int32) (w' : MW) (r : ZR), ZI f n (lkn nm) op 9 0 s r → YR w w' f n nm op e s r y → Q y w') : YBd f n nm op L s1 Q := by
  intro w' r hE hf ew
  refine hQ (-1) w' r (ZI_9 (by rw [ek]; exact hk) (by rw [ek]; exact h1 _ hE) ?_) (Or.inr ⟨hf, by decide, ew⟩)
  rw [if_neg (by rw [hf]; decide)]
/-- a statement -/
theorem y_stm {B S : MW → (Int32 → MW → Prop) → Prop} {f : Int → Int} {n : Int} {nm : List Nm} {op : Nat} (hB : HZm B 4 op f n nm) : HZm (pb_Tx_statement B S) 9 op f n nm := by
  intro e s w Q h hm m0 m1 hQ
  have tk := y_tk h
  have ts := tk_st (f := f) (n := n) (p := s.1) h.2.2.1
  have tb := tk_unit (f := f) (n := n) (p := s.1) h.2.2.1
  have nob : ¬ isS (wrd f n s.1).1 = true → p_Tx_bad w (fun r2 w2 => (Q r2 w2)) := fun no => y_bad h (fun w' e' => hQ (-1) w' (zer (wrd f n s.1).2.1) (ZI_9b no) (Or.inr ⟨rfl, by decide, e'⟩))
  have ewh := ti_sub2 tk (show (1000 : Int32).toInt = 1000 by decide) (by omega) (by omega)
  rw [pb_Tx_statement.eq_1]
  generalize ((w.1 129 4) - (1000 : Int32)) = wh at *
  refine ⟨fun z => nob (fun q => by have := ts.mp q; omega), fun z => ⟨fun z2 => ?_, fun z2 => nob (fun q => by have := ts.mp q; omega)⟩⟩
  have yes : isS (wrd f n s.1).1 = true := ts.mpr (by omega)
  have Z0 : YZ w f n nm op e (w.1 129 35).toInt (zin s) := ⟨h, pil_nil h.1.1.1, hm, m0, m1⟩
  refine yi_go Z0 rfl (fun w' r hz hf ew => ⟨fun z => absurd i_0 z, fun _ => ?_⟩) (fun v s1 hz es p1 Z1 KX1 K1 => ⟨fun _ => ?_, fun z => absurd i1n z⟩)
  · refine hQ (-1) w' r (ZI_9 yes (ZE_b hz hf) ?_) (Or.inr ⟨hf, by decide, ew⟩)
    rw [if_neg (by rw [hf]; decide)]
  · have hA : s1.2.2.2.2 = (0, 0, 0) := by rw [es]; rfl
    have wd : ∀ c : Int, 1 ≤ c ∧ c ≤ 26 → wh.toInt = mng c → (wrd f n s.1).1 = c := fun c c1 ec => (tk_word h.2.2.1 c1).mp (by omega)
    have H : ∀ (c : Int) (L : List (Int × Int)), (wrd f n s.1).1 = c → its c = L → ∀ r1, ZE f n (lkn nm) op L s1 r1 → ZE f n (lkn nm) op ((0, c) :: its c) (zin s) r1 := fun c L ec el r1 hE => by
      rw [el, ← ec]
      exact ZE_g hz rfl hE
    have bd : ∀ (c : Int) (L : List (Int × Int)), (wrd f n s.1).1 = c → its c = L → YBd f n nm op L s1 Q := fun c L ec el => y_fbad (by rw [← ec]; exact yes) ec (H c L ec el) hQ
    have gd : ∀ (c : Int) (L : List (Int × Int)) (ln : Int32), wh.toInt = mng c → (wrd f n s.1).1 = c → its c = L → YGd f n nm op e (w.1 129 35).toInt L s1 v wh ln Q := fun c L ln ew ec el => y_fin (by rw [← ec]; exact yes) ec ew h KX1 p1 (H c L ec el) hQ
    refine ⟨fun k => ?_, fun _ => ⟨fun k => ?_, fun _ => ⟨fun k => ?_, fun _ => ⟨fun k => ?_, fun _ => ⟨fun k => ?_, fun _ => ⟨fun k => ?_, fun _ => ⟨fun k => ?_, fun _ => ⟨fun k => ?_, fun _ => ⟨fun k => ⟨fun d => absurd k d, fun _ => ?_⟩, fun _ => ⟨fun k => ⟨fun _ => ?_, fun d => absurd (by omega) d⟩, fun _ => ⟨fun k => ?_, fun _ => ⟨fun k => ?_, fun _ => ⟨fun k => ?_, fun k => absurd (by omega) k⟩⟩⟩⟩⟩⟩⟩⟩⟩⟩⟩⟩⟩
    · have ec := wd 11 (by decide) (k.trans (by decide))
      exact yk_set Z1 (bd 11 _ ec rfl) (gd 11 _ _ (k.trans (by decide)) ec rfl)
    · have ec := wd 12 (by decide) (k.trans (by decide))
      exact yk_wait Z1 hA (bd 12 _ ec rfl) (gd 12 _ _ (k.trans (by decide)) ec rfl)
    · have ec := wd 13 (by decide) (k.trans (by decide))
      exact yk_until Z1 hA (bd 13 _ ec rfl) (gd 13 _ _ (k.trans (by decide)) ec rfl)
    · have ec := wd 14 (by decide) (k.trans (by decide))
      exact yk_ramp Z1 (bd 14 _ ec rfl) (gd 14 _ _ (k.trans (by decide)) ec rfl)
    · have ec := wd 16 (by decide) (k.trans (by decide))
      exact yk_par hB Z1 hA (bd 16 _ ec rfl) (gd 16 _ _ (k.trans (by decide)) ec rfl)
    · have ec := wd 17 (by decide) (k.trans (by decide))
      exact yk_if hB Z1 hA (bd 17 _ ec rfl) (gd 17 _ _ (k.trans (by decide)) ec rfl)
    · have ec := wd 19 (by decide) (k.trans (by decide))
      exact yk_rep hB Z1 hA (bd 19 _ ec rfl) (gd 19 _ _ (k.trans (by decide)) ec rfl)
    · have ec := wd 20 (by decide) (k.trans (by decide))
      exact yk_limit hB Z1 hA (bd 20 _ ec rfl) (gd 20 _ _ (k.trans (by decide)) ec rfl)
    · have ec := wd 22 (by decide) (k.trans (by decide))
      exact yk_480 (c := 8) Z1 (by decide) (by decide) (bd 22 _ ec rfl) (gd 22 _ _ (k.trans (by decide)) ec rfl)
    · have ec := wd 23 (by decide) (k.trans (by decide))
      exact yk_480 (c := 10) Z1 (by decide) (by decide) (bd 23 _ ec rfl) (gd 23 _ _ (k.trans (by decide)) ec rfl)
    · have ec := wd 24 (by decide) (k.trans (by decide))
      exact yk_stop Z1 hA (bd 24 _ ec rfl) (gd 24 _ _ (k.trans (by decide)) ec rfl)
    · have ec := wd 25 (by decide) (k.trans (by decide))
      exact yk_stop Z1 hA (bd 25 _ ec rfl) (gd 25 _ _ (k.trans (by decide)) ec rfl)
    · have ec := wd 26 (by decide) (k.trans (by decide))
      exact yk_act Z1 (bd 26 _ ec rfl) (gd 26 _ _ (k.trans (by decide)) ec rfl)
/-- the statements of a block -/
theorem y_52 {B S : MW → (Int32 → MW → Prop) → Prop} {f : Int → Int} {n : Int} {nm : List Nm} {op : Nat} {e lo p0 : Int} {w0 : MW} {ln mk : Int32} {E : MW → Prop} {Q : Int32 → MW → Prop} {R : ZR → Prop} (hS : HZm S 9 op f n nm) (hb : ∀ (w' : MW) (r : ZR), R r → r.1 = false → (w'.1 129 10).toInt = r.2.1 → Q (-1) w') (hE : ∀ (w' : MW) (s' : ZS), R (zok s') → (wrd f n s'.1).1 = 125 → YZ w' f n nm op e lo s' → KY lo w0 w' → p0 ≤ s'.1 → E w') (m : Nat) : ∀ (w : MW) (s : ZS), YZ w f n nm op e lo s → KY lo w0 w → p0 ≤ s.1 → (∀ r, ZI f n (lkn nm) op 8 0 s r → (r.1 = false ∨ ∃ s', r = zok s') → R r) → 301 - s.2.1.length < m → q_Tx_block_52 B S ln mk E Q m w := by
  induction m with
  | zero => intros; omega
  | succ m ih =>
    intro w s hZ K hp hR hm
    have l3 := ys_len hZ.1
    have tk := y_tk hZ.1
    have t125 := tk_sign (f := f) (n := n) (p := s.1) (c := 125) hZ.1.2.2.1 (by decide) (by decide)
    rw [q_Tx_block_52.eq_2, tk]
    refine ⟨fun z => hE w s (hR _ (ZI_8n (t125.mp z)) (Or.inr ⟨s, rfl⟩)) (t125.mp z) hZ K hp, fun z => ?_⟩
    have n125 : ¬ (wrd f n s.1).1 = 125 := fun q => z (t125.mpr q)
    refine hS e s w _ hZ.1 hZ.2.2.1 hZ.2.2.2.1 hZ.2.2.2.2 (fun y w1 r hr o => ?_)
    rcases o with ⟨s', er, Y1, y1, KN, e35, kp, m1, M0, M1, p1, n1, et, k23⟩ | ⟨g, y1, e1⟩
    · refine ⟨fun _ => yp_x hZ Y1 y1 (by omega) KN e35 kp m1 M0 M1 (fun w' Z' K' => ?_), fun z => absurd (show 0 ≤ y.toInt by omega) z⟩
      rw [er] at hr
      have es : s' = (s'.1, s'.2.1, s'.2.2.1, s.2.2.2.1 ++ [s'.2.1.length - 1], s.2.2.2.2) := by
        show (s'.1, s'.2.1, s'.2.2.1, s'.2.2.2) = _
        rw [et]
      rw [← es] at Z'
      have l1 := ys_len Z'.1
      refine ih w' s' Z' (K.tr K') (by omega) (fun r h8 ho => hR r (ZI_8 n125 ?_) ho) (by omega)
      rcases ho with hf | ⟨s2, e2⟩
      · exact ZE_g hr rfl (ZE_b h8 hf)
      · rw [e2] at h8 ⊢
        exact ZE_g hr rfl (ZE_g h8 rfl (ZE_n _ _ _ _ _))
    · exact ⟨fun z => absurd z (by omega), fun _ => hb w1 r (hR r (ZI_8 n125 (ZE_b hr g)) (Or.inl g)) g e1⟩
/-- a block -/
theorem y_blk {B S : MW → (Int32 → MW → Prop) → Prop} {f : Int → Int} {n : Int} {nm : List Nm} {op : Nat} (hS : op < 20 → HZm S 9 (op + 1) f n nm) : HZm (pb_Tx_block B S) 4 op f n nm := by
  intro e s w Q h hm m0 m1 hQ
  have tk := y_tk h
  have t123 := tk_sign (f := f) (n := n) (p := s.1) (c := 123) h.2.2.1 (by decide) (by decide)
  have o8 := h.1.2.2.2
  have b35 := bd_129_35 h.1.1.1
  have b11 := bd_129_11 h.1.1.1
  have nob : ¬ ((wrd f n s.1).1 = 123 ∧ op < 20) → p_Tx_bad w (fun r2 w2 => (Q r2 w2)) := fun no => y_bad h (fun w' e' => hQ (-1) w' (zer (wrd f n s.1).2.1) (ZI_4b no) (Or.inr ⟨rfl, by decide, e'⟩))
  refine Eq.mpr (pb_Tx_block.eq_1 _ _ _ _) ?_
  rw [tk]
  refine ⟨fun z => nob (fun q => z (t123.mpr q.1)), fun z => ⟨fun c => ?_, fun c => nob (fun q => by have := Classical.not_not.mp c; omega)⟩⟩
  have k := t123.mp (Classical.not_not.mp z)
  have lo20 : op < 20 := by omega
  have s11 := ti_add2 o8 i_1 (by omega) (by omega)
  have Y1 := ys_op (op' := op + 1) (v := (w.1 129 11) + (1 : Int32)) h (by omega) (by omega)
  have fu : (1000 : Nat) < FU := fu_lt (by decide)
  have Z1 : YZ (sI w 129 11 ((w.1 129 11) + (1 : Int32))) f n nm (op + 1) e (w.1 129 35).toInt (zin s) := ⟨Y1.1, by
    have t := pil_nil Y1.1.1.1.1
    rw [Y1.2.2.1] at t
    exact t, by rw [Y1.2.2.2.2]; exact hm, m0, m1⟩
  have wrong : ∀ (w' : MW) (r1 : ZR), ZE f n (lkn nm) (op + 1) [(0, 123), (8, 0), (0, 125)] (zin s) r1 → r1.1 = false → (w'.1 129 10).toInt = r1.2.1 → Q (-1) w' := fun w' r1 hE hf ew => hQ (-1) w' r1 (ZI_4 ⟨k, lo20⟩ hE (by rw [if_neg (by rw [hf]; decide)])) (Or.inr ⟨hf, by decide, ew⟩)
  refine yi_go Z1 k (fun w' r hz hf ew => ⟨fun z => absurd i_0 z, fun _ => wrong w' r (ZE_b hz hf) hf ew⟩) (fun w4 s4 hz es p4 Z4 KX4 K4 => ⟨fun _ => ?_, fun z => absurd i1n z⟩)
  have l4 := ys_len Z4.1
  refine y_52 (R := fun r => ZI f n (lkn nm) (op + 1) 8 0 s4 r) (w0 := w4) (p0 := s4.1) (lo := (w.1 129 35).toInt) (hS lo20) (fun w' r h8 hf ew => wrong w' r (ZE_g hz rfl (ZE_b h8 hf)) hf ew) (fun w10 s10 h8 k125 Z10 K10 p10 => ?_) FU w4 s4 Z4 (KY.refl _ _) (Int.le_refl _) (fun r h8 _ => h8) (by omega)
  have o10 := Z10.1.1.2.2.2
  have s12 := ti_sub2 o10 i_1 (by omega) (by omega)
  have Y11 := ys_op (op' := op) (v := (w10.1 129 11) - (1 : Int32)) Z10.1 (by omega) (by omega)
  have Z11 := yz_kx (s := s10) (op := op) (e := e) (lo := (w.1 129 35).toInt) (w := sI w10 129 11 ((w10.1 129 11) - (1 : Int32))) (w' := sI w10 129 11 ((w10.1 129 11) - (1 : Int32))) ⟨Y11.1, pil_kx Z10.2.1 Y11.2, by rw [Y11.2.2.2.2]; exact Z10.2.2.1, Z10.2.2.2.1, Z10.2.2.2.2⟩ Y11.1 (KX.refl _) s10.2.2.2.2
  have K11 : KY (w.1 129 35).toInt w10 (sI w10 129 11 ((w10.1 129 11) - (1 : Int32))) := ky_kx Z10.2.1 Y11.2
  refine yi_go (s := s10) Z11.1 k125 (fun w' r hz2 hf ew => ⟨fun _ => wrong w' r (ZE_g hz rfl (ZE_g h8 rfl (ZE_b hz2 hf))) hf ew, fun z => absurd i_0 z⟩) (fun w13 s13 hz2 es2 p13 Z13 KX13 K13 => ⟨fun z => absurd z i1n, fun _ => ?_⟩)
  have inside : ZE f n (lkn nm) (op + 1) [(0, 123), (8, 0), (0, 125)] (zin s) (zok s13) := ZE_g hz rfl (ZE_g h8 rfl (ZE_g hz2 rfl (ZE_n _ _ _ _ _)))
  have all : ∀ r, r = znd f n s s13 0 (35, 0, 0, s13.2.2.2.1) → ZI f n (lkn nm) op 4 0 s r := fun r hr => ZI_4 ⟨k, lo20⟩ inside (by
    show (if true = true then _ else _)
    rw [if_pos rfl]
    exact hr)
  have KK : KNm w w13 := ((((Y1.2.1.tr KX4.1).tr K10.1).tr K11.1)).tr K13.1
  have e13 := h.2.2.2.1.1
  have e913 := Z13.1.2.2.2.1.1
  have g13 := KK.2.1
  have pp : s.1 ≤ s13.1 := by
    have a : s.1 ≤ s4.1 := p4
    have c : s10.1 ≤ s13.1 := p13
    omega
  refine y_node (d := (35, 0, 0, s13.2.2.2.1)) (lo := (w.1 129 35).toInt) Z13.1 (show (23 : Int32).toInt = wht 35 by decide) (show 0 ≤ wht 35 by decide) (show wht 35 ≤ 24 by decide) (by decide) (by decide) rfl Z13.2.1 (fun z => absurd z (show ¬ (35 : Int) = 31 by decide)) (fun _ _ => (show (0 : Int64).toInt = 0 by decide)) (fun n3 w' e' => hQ (-1) w' (zer (wrd f n s13.1).2.1) (all _ (by unfold znd; rw [if_pos n3])) (Or.inr ⟨rfl, by decide, e'⟩)) (fun n3 r w' er Y' KN e35 kp _ f38 _ => hQ r w' (zok (s13.1, s13.2.1 ++ [(35, 0, 0, s13.2.2.2.1)], s13.2.2.1 + 0, s.2.2.2.1 ++ [s13.2.1.length], s.2.2.2.2)) (all _ (by unfold znd; rw [if_neg n3])) (Or.inl ⟨_, rfl, Y', ?_, KK.tr KN, e35, fun j j0 j1 => ?_, ?_, ?_, ?_, pp, ?_, ?_, ?_⟩))
  · show r.toInt + 1 = ((s13.2.1 ++ [(35, 0, 0, s13.2.2.2.1)]).length : Int)
    rw [List.length_append, List.length_singleton]
    omega
  · rw [kp, K13.2 j j0 j1, K11.2 j j0 j1, K10.2 j j0 j1, KX4.2.2.1 j j0 (by rw [Y1.2.2.1]; exact j1), Y1.2.2.2.1 j j0 j1]
  · show (w'.1 129 38).toInt = s13.2.2.1 + 0
    rw [f38, Z13.2.2.1]
    omega
  · show 0 ≤ s13.2.2.1 + 0
    have := Z13.2.2.2.1
    omega
  · show s13.2.2.1 + 0 ≤ ((s13.2.1 ++ [(35, 0, 0, s13.2.2.2.1)]).length : Int)
    rw [List.length_append, List.length_singleton]
    have := Z13.2.2.2.2
    omega
  · show s.2.1.length < (s13.2.1 ++ [(35, 0, 0, s13.2.2.2.1)]).length
    rw [List.length_append, List.length_singleton]
    omega
  · show (s.2.2.2.1 ++ [s13.2.1.length], s.2.2.2.2) = (s.2.2.2.1 ++ [(s13.2.1 ++ [(35, 0, 0, s13.2.2.2.1)]).length - 1], s.2.2.2.2)
    rw [List.length_append, List.length_singleton, Nat.add_sub_cancel]
  · have t := (Y'.2.2.2.1.2 s13.2.1.length (35, 0, 0, s13.2.2.2.1) (by rw [List.getElem?_append_right (Nat.le_refl _), Nat.sub_self]; rfl)).1
    rw [er, t]
    show wht 35 ≤ 23
    decide
theorem y_bs (f : Int → Int) (n : Int) (nm : List Nm) (d : Nat) : (∀ op : Nat, op ≤ 20 → 2 * (20 - op) < d → HZm (pn_Tx_block d) 4 op f n nm) ∧ (∀ op : Nat, op ≤ 20 → 2 * (20 - op) + 1 < d → HZm (pn_Tx_statement d) 9 op f n nm) := by
  induction d with
  | zero => exact ⟨fun _ _ h => by omega, fun _ _ h => by omega⟩
  | succ d ih =>
    refine ⟨fun op ho hm e s w Q h hm2 m0 m1 hQ => ?_, fun op ho hm e s w Q h hm2 m0 m1 hQ => ?_⟩
    · rw [pe_Tx_block]
      exact y_blk (fun c => ih.2 (op + 1) (by omega) (by omega)) e s w Q h hm2 m0 m1 hQ
    · rw [pe_Tx_statement]
      exact y_stm (ih.1 op ho (by omega)) e s w Q h hm2 m0 m1 hQ
/-- THE REFERENCE READS A BLOCK exactly -/
theorem y_block {f : Int → Int} {n : Int} {nm : List Nm} {op : Nat} (ho : op ≤ 20) : HZm p_Tx_block 4 op f n nm := (y_bs f n nm 400).1 op ho (by omega)
/-- THE REFERENCE READS A STATEMENT exactly -/
theorem y_statement {f : Int → Int} {n : Int} {nm : List Nm} {op : Nat} (ho : op ≤ 20) : HZm p_Tx_statement 9 op f n nm := (y_bs f n nm 400).2 op ho (by omega)
