/-! the reference's end of a text, as far as its plant goes -/
def lme2 : Pl := [(129, some 1), (130, none), (147, some 1), (148, none), (129, some 12), (129, some 30), (129, some 31), (129, some 32), (129, some 33), (129, some 2), (129, some 3), (129, some 4), (129, some 5), (129, some 6), (129, some 7), (129, some 8), (129, some 9), (129, some 10), (129, some 11), (129, some 13), (129, some 21), (129, some 23), (129, some 24), (129, some 35), (129, some 38), (145, none), (146, none), (131, none), (132, none), (133, none), (134, none), (135, none), (136, none), (137, none), (138, none), (139, none), (140, none), (141, none), (142, none), (143, none), (144, none), (147, some 4), (147, some 5), (147, some 6), (147, some 7), (147, some 11), (147, some 12), (147, some 13), (147, some 20), (149, none), (150, none), (151, none), (152, none), (153, none), (154, none), (155, none), (156, none), (157, none), (158, none), (159, none), (160, none), (161, none), (162, none), (127, some 26), (127, some 59), (167, none), (181, none), (182, none), (183, none), (184, none), (185, none), (186, none), (187, none), (201, none), (206, none)]
theorem meh_97 {a b : Int32} {E : MW → Prop} {Q : Int32 → MW → Prop} (hb : b.toInt ≤ 4000) {w0 : MW} (hE : ∀ w', MdJ w' → FR lme2 w0 w' → E w') (n : Nat) : ∀ (k : Int32) (w : MW), MdJ w → FR lme2 w0 w → 0 ≤ k.toInt → k.toInt ≤ 4000 → (4000 - k.toInt).toNat < n → q_Mo_end_97 a b E Q n k w := by
  induction n with
  | zero => intros; omega
  | succ n ih =>
    intro k w h hw k0 k1 hm
    rw [q_Mo_end_97.eq_2]
    refine ⟨fun _ => hE w h hw, fun c => ?_⟩
    have s1 := ti_add2 (Eq.refl k.toInt) i_1 (by omega) (by omega)
    have b128 := bd_128 h.1.1 k.toInt.toNat
    exact ⟨fun _ => ⟨⟨by omega, by omega⟩, h_Tx_unit h.1.1 b128.1 b128.2 (fun r w' h' f' _ _ => ih _ _ (MdJ_fr f' h' rfl h) (hw.tr f' rfl) (by omega) (by omega) (by omega))⟩, fun _ => ⟨⟨by omega, by omega⟩, h_Mr_unit h.1.1 b128.1 b128.2 (fun r w' h' f' _ _ => ih _ _ (MdJ_fr f' h' rfl h) (hw.tr f' rfl) (by omega) (by omega) (by omega))⟩⟩
theorem meh_193 {z : Int32} {E : MW → Prop} {Q : Int32 → MW → Prop} {w0 : MW} (hE : ∀ w', MdJ w' → FR lme2 w0 w' → E w') (n : Nat) : ∀ (k : Int32) (w : MW), MdJ w → FR lme2 w0 w → 0 ≤ k.toInt → k.toInt ≤ 40 → (40 - k.toInt).toNat < n → q_Mo_end_193 z E Q n k w := by
  induction n with
  | zero => intros; omega
  | succ n ih =>
    intro k w h hw k0 k1 hm
    rw [q_Mo_end_193.eq_2]
    refine ⟨fun _ => hE w h hw, fun c => ?_⟩
    have s1 := ti_add2 (Eq.refl k.toInt) i_1 (by omega) (by omega)
    exact ⟨⟨by omega, by omega⟩, ⟨by omega, by omega⟩, ih _ _ (MdJ_fr (l := [(201, none), (206, none)]) (FR.J (FR.I (FR.refl _ w) rfl) rfl) (bnd_J (wbd_201 h.1.1 _ (by decide) (by decide))) rfl h) (FR.J (FR.I hw rfl) rfl) (by omega) (by omega) (by omega)⟩
/-- the text of n bytes on the reference's tape -/
def MTx (w : MW) (n : Int) (p : Int) : Int := if 0 ≤ p ∧ p < n then (w.1 128 p.toNat).toInt else 0
def sameP (w w' : MW) : Prop := ∀ ls, PWs w ls → PWs w' ls
theorem sp_fr {l : Pl} {w w' : MW} (hF : FR l w w') (ho : off l [(127, some 4), (127, some 11), (163, none), (164, none), (169, none), (170, none), (171, none)] = true) : sameP w w' := fun _ h => pws_fr h hF ho
/-- what the reference's end does -/
def EM (w : MW) (a b : Int32) (r : Int32) (w' : MW) : Prop := (¬ (fitE (w.1 127 1).toInt a b ∧ txO (MTx w b.toInt) b.toInt) ∧ r = -1 ∧ sameP w w') ∨ ((fitE (w.1 127 1).toInt a b ∧ txO (MTx w b.toInt) b.toInt) ∧ ¬ a.toInt = 0 ∧ sameP w w') ∨ ((fitE (w.1 127 1).toInt a b ∧ txO (MTx w b.toInt) b.toInt) ∧ a.toInt = 0 ∧ ∃ (r' : Int) (ls : List Ln), (∃ k, PlR (MTx w b.toInt) b.toInt k 0 [] r' ls) ∧ ((0 ≤ r' ∧ r.toInt = -3 - r' ∧ sameP w w') ∨ (r' = -1 ∧ r.toInt = ((thg ls).length : Int) ∧ PTk w' ls)))
theorem z37 {a b : Int32} {w : MW} {E Q : Int32 → MW → Prop} (n : Nat) (k : Int32) (h : E 0 w) : q_Mo_end_37 a b E Q (n + 1) 0 k w := by
  rw [q_Mo_end_37.eq_2]
  exact ⟨fun _ => h, fun _ => ⟨fun _ => h, fun c => absurd i_0 c⟩⟩
theorem mx_37 {a b : Int32} {w : MW} {E Q : Int32 → MW → Prop} (hI : BND w) (b4 : b.toInt ≤ 4000) (h1 : txO (MTx w b.toInt) b.toInt → E 1 w) (h0 : ¬ txO (MTx w b.toInt) b.toInt → E 0 w) (n : Nat) : ∀ (k : Nat), (k : Int) ≤ b.toInt → (∀ p : Int, 0 ≤ p → p < (k : Int) → 1 ≤ MTx w b.toInt p ∧ MTx w b.toInt p ≤ 127) → 4001 - k < n → q_Mo_end_37 a b E Q n 1 (nI k) w := by
  induction n with
  | zero => intros; omega
  | succ n ih =>
    intro k hk hj hm
    have ti : (nI k).toInt = (k : Int) := nI_toInt (by omega)
    have tn : (nI k).toInt.toNat = k := by omega
    have b8 := bd_128 hI k
    rw [q_Mo_end_37.eq_2]
    refine ⟨fun c => h1 (fun p p0 p1 => hj p p0 (by omega)), fun c => ⟨fun q => absurd q (by decide), fun _ => ⟨⟨by omega, by omega⟩, fun d => ?_, fun d => ?_⟩⟩⟩
    · rw [tn] at d
      obtain ⟨m, em⟩ : ∃ m, n = m + 1 := ⟨n - 1, by omega⟩
      rw [em]
      refine z37 m _ (h0 (fun q => ?_))
      have g := q k (by omega) (by omega)
      unfold MTx at g
      rw [if_pos ⟨by omega, by omega⟩] at g
      have e : ((k : Int)).toNat = k := by omega
      rw [e] at g
      omega
    · rw [tn] at d
      rw [nI_1]
      refine ih (k + 1) (by omega) (fun p p0 p1 => ?_) (by omega)
      by_cases e : p = (k : Int)
      · rw [e]
        unfold MTx
        rw [if_pos ⟨by omega, by omega⟩]
        have e2 : ((k : Int)).toNat = k := by omega
        rw [e2]
        omega
      · exact hj p p0 (by omega)
theorem mx_end {w : MW} {a b : Int32} {Q : Int32 → MW → Prop} (h : MdJ w) (hQ : ∀ r w', EM w a b r w' → Q r w') : p_Mo_end w a b Q := by
  have F0 : FR [(127, some 1)] w (sI w 127 1 0) := FR.I (FR.refl _ w) rfl
  have h1 : MdJ (sI w 127 1 0) := MdJ_fr (l := [(127, some 1)]) F0 (wbd_127_1 h.1.1 (by decide) (by decide)) rfl h
  have S0 : sameP w (sI w 127 1 0) := sp_fr F0 rfl
  have e128 : ∀ j, (sI w 127 1 0).1 128 j = w.1 128 j := fun j => rfl
  have N : ¬ (fitE (w.1 127 1).toInt a b ∧ txO (MTx w b.toInt) b.toInt) → Q (-1) (sI w 127 1 0) := fun k => hQ _ _ (Or.inl ⟨k, rfl, S0⟩)
  have K0 : ¬ fitE (w.1 127 1).toInt a b → q_Mo_end_33 a b 0 w Q := fun k => Eq.mpr (q_Mo_end_33.eq_1 _ _ _ _ _) (z37 99999999999999999999 _ ⟨fun c => absurd i_0 c, fun _ => N (fun z => k z.1)⟩)
  have K1 : fitE (w.1 127 1).toInt a b → q_Mo_end_33 a b 1 w Q := fun ft => by
    have g0 := ft.1
    have g2 := ft.2.1
    have gb := ft.2.2.1
    have gb4 := ft.2.2.2.1
    refine Eq.mpr (q_Mo_end_33.eq_1 _ _ _ _ _) (mx_37 h.1.1 ft.2.2.2.1 (fun ok => ⟨fun _ => ⟨fun ca => ?_, fun ca => ?_⟩, fun c => absurd (show ¬ (1 : Int32).toInt = 0 by decide) c⟩) (fun no => ⟨fun c => absurd i_0 c, fun _ => N (fun z => no z.2)⟩) FU 0 (by omega) (fun p p0 p1 => by omega) (fu_lt (by decide)))
    · have O : ∀ (r : Int32) (w' : MW), FR lme2 (sI w 127 1 0) w' → Q r w' := fun r w' f => hQ r w' (Or.inr (Or.inl ⟨⟨ft, ok⟩, ca, fun ls p => pws_fr (S0 ls p) f rfl⟩))
      clear N K0 S0 F0 e128
      generalize (sI w 127 1 0) = w1 at *
      refine meh_97 (w0 := w1) gb4 (fun w15 h15 f15 => ?_) FU 0 w1 h1 (FR.refl _ w1) (by decide) (by decide) (fu_lt (by decide))
      have P15 := h15.1.2.2.2.1
      refine ⟨fun c1 => t_read h15.1.1 h15.2.2 h15.2.1 (fun r w' hB hF hV hL hs => ?_), fun c1 => h_Mr_read h15.1.1 P15.1 (fun r w' hB hF hD _ _ => ?_)⟩
      · have X := tl_tex hB hL
        have P' : PF w' := PF_fr hF rfl P15
        have N : r.toInt < 0 → MdJ w' := fun c => ⟨⟨hB, X.1, X.2, P', fun q => by
          rw [(hF 127 59 rfl).1] at q
          exact qp_sh h15.1.1 hF rfl (hs c).1 (hs c).2.1 (hs c).2.2 (h15.1.2.2.2.2 q)⟩, hL, hV⟩
        have OO : ∀ w26 : MW, MdJ w26 → FR lme2 w1 w26 → ((0 ≤ r.toInt → (Q r w26)) ∧ (¬ (0 ≤ r.toInt) → (Q (r - (2 : Int32)) w26))) := fun w26 h26 f26 => ⟨fun _ => O _ _ f26, fun _ => O _ _ f26⟩
        refine Eq.mpr (q_Mo_end_169.eq_1 _ _ _ _) ⟨fun c2 => by omega, fun _ => ⟨fun c => OO w' (N c) (f15.tr hF rfl), fun _ => ?_⟩⟩
        have B4 : BND (sI w' 127 59 4) := wbd_127_59 hB (by decide) (by decide)
        have F4 : FR [(127, some 59)] w' (sI w' 127 59 4) := FR.I (FR.refl _ w') rfl
        have G4 : FR lme2 w1 (sI w' 127 59 4) := FR.I (f15.tr hF rfl) rfl
        have e4 : (sI w' 127 59 4).1 127 59 = 4 := rfl
        have L4 : TLx (sI w' 127 59 4) := tlx_fr hB F4 rfl hL
        have V4 : VG (sI w' 127 59 4) := hV
        have P4 : PF (sI w' 127 59 4) := PF_fr F4 rfl P'
        generalize (sI w' 127 59 4) = w4 at *
        refine h_Mo_closeAll B4 P4.2.1 P4.2.2.1 (fun w22 B22 F22 T22 H22 => meh_193 (w0 := w1) (fun w26 h26 f26 => OO w26 h26 f26) FU 0 w22 ?_ (G4.tr F22 rfl) (by decide) (by decide) (fu_lt (by decide)))
        have L22 := tlx_fr B4 F22 rfl L4
        have X22 := tl_tex B22 L22
        refine ⟨⟨B22, X22.1, X22.2, ⟨DR_fr F22 rfl P4.1, T22, H22, MC_fr F22 rfl P4.2.2.2.1, MZ_fr F22 rfl P4.2.2.2.2.1, RP_fr F22 rfl P4.2.2.2.2.2.1, SZ_fr F22 rfl P4.2.2.2.2.2.2⟩, fun q => ?_⟩, L22, by unfold VG; rw [(F22 129 8 rfl).2.1]; exact V4⟩
        rw [(F22 127 59 rfl).1, e4] at q
        exact absurd q (by decide)
      · have hL := tlx_fr h15.1.1 hF rfl h15.2.1
        have X := tl_tex hB hL
        have h' : MdJ w' := ⟨⟨hB, X.1, X.2, ⟨hD, FT_fr hF rfl P15.2.1, HW_fr hF rfl P15.2.2.1, MC_fr hF rfl P15.2.2.2.1, MZ_fr hF rfl P15.2.2.2.2.1, RP_fr hF rfl P15.2.2.2.2.2.1, SZ_fr hF rfl P15.2.2.2.2.2.2⟩, fun q => by
          rw [(hF 127 59 rfl).1] at q
          exact ⟨QP_fr hF rfl (h15.1.2.2.2.2 q).1, QS_fr hF rfl (hF 210 0 rfl).1 (h15.1.2.2.2.2 q).2⟩⟩, hL, by unfold VG; rw [(hF 129 8 rfl).2.1]; exact h15.2.2⟩
        exact Eq.mpr (q_Mo_end_169.eq_1 _ _ _ _) ⟨fun _ => ⟨fun _ => O _ _ (f15.tr hF rfl), fun _ => O _ _ (f15.tr hF rfl)⟩, fun c2 => by omega⟩
    · have h2 : MdJ (sI (sI w 127 1 0) 127 22 b) := MdJ_fr (l := [(127, some 22)]) (FR.I (FR.refl _ _) rfl) (wbd_127_22 h1.1.1 gb gb4) rfl h1
      have F2 : FR [(127, some 1), (127, some 22)] w (sI (sI w 127 1 0) 127 22 b) := FR.I (FR.I (FR.refl _ w) rfl) rfl
      have en : (sI (sI w 127 1 0) 127 22 b).1 127 22 = b := sI_same _ _ _ _
      have eh : hf (sI (sI w 127 1 0) 127 22 b) = MTx w b.toInt := by
        funext p
        unfold hf MTx
        rw [sI_same, sI_oth _ _ _ _ _ _ (by decide), e128]
      have a0 := Classical.not_not.mp ca
      generalize (sI (sI w 127 1 0) 127 22 b) = w2 at *
      refine rm_read h2.1.1 (fun r w' r' ls B' F' k q => hQ r w' (Or.inr (Or.inr ⟨⟨ft, ok⟩, a0, r', ls, ?_, ?_⟩)))
      · rw [eh, en] at k
        exact k
      · rcases q with ⟨q1, q2, q3⟩ | q
        · exact Or.inl ⟨q1, q2, fun l p => pws_fr (sp_fr F2 rfl l p) q3 rfl⟩
        · exact Or.inr q
  exact Eq.mpr (p_Mo_end.eq_1 _ _ _ _) ⟨fun c => K0 (fun z => by have := z.1; omega), fun a0 => ⟨fun c => K0 (fun z => by have := z.2.1; omega), fun a2 => ⟨fun c => K0 (fun z => by have := z.2.2.1; omega), fun b0 => ⟨fun c => K0 (fun z => by have := z.2.2.2.1; omega), fun b4 => ⟨fun c => K0 (fun z => by have := z.2.2.2.2; omega), fun bn => K1 ⟨by omega, by omega, by omega, by omega, by omega⟩⟩⟩⟩⟩⟩
