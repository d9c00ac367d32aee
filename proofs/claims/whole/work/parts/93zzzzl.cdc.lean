/-! the class reads declarations -/
def lanm : Pl := [(108, some 10), (116, none), (117, none), (118, none), (119, none), (120, none), (121, none)]
theorem ca_add {w : MW} {f : Int → Int} {n p c U Bk : Int} {nm : List Nm} {op : Nat} {ns : List Nod} {l : List Int} {code : Int64} {k u b : Int32} {Q : MW → Prop} (h : XS w f n nm op p ns) (lt : nm.length < 40) (hc : code.toInt = cod 0 l) (hl : ∀ x ∈ l, ldc x) (hk : k.toInt = c) (hu : u.toInt = U) (hb : b.toInt = Bk) (u0 : 0 ≤ U) (b0 : -1 ≤ Bk) (b1 : Bk ≤ 300) (b10 : c = 10 → 0 ≤ Bk) (hQ : ∀ w', FR lanm w w' → XS w' f n (nm ++ [(l, c, U, Bk)]) op p ns → Q w') : p_Pr_addNames108 w code k u b Q := by
  have NM := h.1.2.2.2.2.2.2.1
  have n0 := NM.1
  have N : 0 ≤ (w.1 108 10).toInt ∧ (w.1 108 10).toInt < 40 := ⟨by omega, by omega⟩
  have tn : (w.1 108 10).toInt.toNat = nm.length := by omega
  have sa := ti_add2 n0 i_1 (by omega) (by omega)
  refine Eq.mpr (p_Pr_addNames108.eq_1 _ _ _ _ _ _) ⟨fun z => absurd z (by omega), fun _ => ⟨N, N, N, N, N, N, ?_⟩⟩
  rw [tn]
  have F : FR lanm w (sI (sI (sJ (sI (sI (sI (sJ w 116 nm.length code) 117 nm.length k) 118 nm.length u) 119 nm.length b) 120 nm.length 0) 121 nm.length 5) 108 10 ((w.1 108 10) + (1 : Int32))) := FR.I (FR.I (FR.J (FR.I (FR.I (FR.I (FR.J (FR.refl _ w) rfl) rfl) rfl) rfl) rfl) rfl) rfl
  have hB : BND (sI (sI (sJ (sI (sI (sI (sJ w 116 nm.length code) 117 nm.length k) 118 nm.length u) 119 nm.length b) 120 nm.length 0) 121 nm.length 5) 108 10 ((w.1 108 10) + (1 : Int32))) := wbd_108_10 (wbd_121 (bnd_J (wbd_119 (wbd_118 (wbd_117 (bnd_J h.1.1) _) _) _ (by omega) (by omega))) _ (by decide) (by decide)) (by omega) (by omega)
  have r10 : (sI (sI (sJ (sI (sI (sI (sJ w 116 nm.length code) 117 nm.length k) 118 nm.length u) 119 nm.length b) 120 nm.length 0) 121 nm.length 5) 108 10 ((w.1 108 10) + (1 : Int32))).1 108 10 = (w.1 108 10) + (1 : Int32) := sI_same _ _ _ _
  have r116 : ∀ j, (sI (sI (sJ (sI (sI (sI (sJ w 116 nm.length code) 117 nm.length k) 118 nm.length u) 119 nm.length b) 120 nm.length 0) 121 nm.length 5) 108 10 ((w.1 108 10) + (1 : Int32))).2.1 116 j = (sJ w 116 nm.length code).2.1 116 j := fun j => rfl
  have r117 : ∀ j, (sI (sI (sJ (sI (sI (sI (sJ w 116 nm.length code) 117 nm.length k) 118 nm.length u) 119 nm.length b) 120 nm.length 0) 121 nm.length 5) 108 10 ((w.1 108 10) + (1 : Int32))).1 117 j = (sI w 117 nm.length k).1 117 j := fun j => rfl
  have r118 : ∀ j, (sI (sI (sJ (sI (sI (sI (sJ w 116 nm.length code) 117 nm.length k) 118 nm.length u) 119 nm.length b) 120 nm.length 0) 121 nm.length 5) 108 10 ((w.1 108 10) + (1 : Int32))).1 118 j = (sI w 118 nm.length u).1 118 j := fun j => rfl
  have r119 : ∀ j, (sI (sI (sJ (sI (sI (sI (sJ w 116 nm.length code) 117 nm.length k) 118 nm.length u) 119 nm.length b) 120 nm.length 0) 121 nm.length 5) 108 10 ((w.1 108 10) + (1 : Int32))).1 119 j = (sI w 119 nm.length b).1 119 j := fun j => rfl
  generalize (sI (sI (sJ (sI (sI (sI (sJ w 116 nm.length code) 117 nm.length k) 118 nm.length u) 119 nm.length b) 120 nm.length 0) 121 nm.length 5) 108 10 ((w.1 108 10) + (1 : Int32))) = w' at *
  have len : ∀ y : Nm, (nm ++ [y]).length = nm.length + 1 := fun y => by rw [List.length_append, List.length_singleton]
  refine hQ w' F ⟨⟨hB, ((F 87 0 rfl).2.2).trans h.1.2.1, ((F 87 1 rfl).2.2).trans h.1.2.2.1, fun i k hk => by rw [(F 90 i rfl).2.1]; exact h.1.2.2.2.1 i k hk, (cf_fr F rfl).trans h.1.2.2.2.2.1, by rw [(F 1 2 rfl).1]; exact h.1.2.2.2.2.2.1, ⟨by rw [r10, sa, len]; omega, by rw [len]; omega, fun i x hx => ?_⟩, by rw [(F 87 8 rfl).1]; exact h.1.2.2.2.2.2.2.2.1, by rw [(F 87 2 rfl).1]; exact h.1.2.2.2.2.2.2.2.2⟩, tkc_fr h.2.1 F rfl, h.2.2.1, by rw [(F 87 9 rfl).1]; exact h.2.2.2.1, ⟨by rw [(F 108 1 rfl).1]; exact h.2.2.2.2.1.1, fun i d hd => ?_⟩, h.2.2.2.2.2⟩
  · rcases app_get hx with q | ⟨q, q2⟩
    · have il := (List.getElem?_eq_some_iff.mp q).1
      have t := NM.2.2 i x q
      rw [r116, sJ_at, if_neg (fun z => by omega), r117, sI_ne _ _ _ _ _ (by omega), r118, sI_ne _ _ _ _ _ (by omega), r119, sI_ne _ _ _ _ _ (by omega)]
      exact t
    · rw [q, r116, sJ_same, r117, sI_same, r118, sI_same, r119, sI_same, q2]
      exact ⟨hc, hk, hu, hb, hl, b10, u0⟩
  · have t := h.2.2.2.2.1.2 i d hd
    rw [(F 109 i rfl).1, (F 110 i rfl).1, (F 115 i rfl).2.1]
    exact t
theorem cw_add {w : MW} {code : Int64} {k u b : Int32} {e : Int} {Q : MW → Prop} (hI : BND w) (he : (w.1 87 9).toInt = e) (hQ : ∀ w', (w'.1 87 9).toInt = e → Q w') : p_Pr_addNames108 w code k u b Q := by
  have b10 := (bd_108_10 hI).1
  refine Eq.mpr (p_Pr_addNames108.eq_1 _ _ _ _ _ _) ⟨fun _ => hQ w he, fun z => ?_⟩
  have N : 0 ≤ (w.1 108 10).toInt ∧ (w.1 108 10).toInt < 40 := ⟨b10, by omega⟩
  exact ⟨N, N, N, N, N, N, hQ _ he⟩
/-- the end of a declaration where it is wrong -/
theorem cw_114 {w : MW} {f : Int → Int} {n e : Int} {nm : List Nm} {op : Nat} {i k u b : Int32} {code : Int64} {A : Int32 → MW → Prop} {E : MW → Prop} {Q : Int32 → MW → Prop} (h : ZW w f n nm op e) (hA : ∀ w', (w'.1 87 9).toInt = e → A (i + (1 : Int32)) w') : q_Rd_read_1_108_114 i k code b u w A E Q :=
  Eq.mpr (q_Rd_read_1_108_114.eq_1 _ _ _ _ _ _ _ _ _) ⟨fun _ => cw_tk h ⟨h.1.2.2.1, cw_add h.1.1 h.2.1 hA⟩, fun _ => cw_mk h (fun r15 w15 _ _ W => ⟨W.1.2.2.1, cw_add W.1.1 W.2.1 hA⟩)⟩
theorem lkn_c {w : MW} {nm : List Nm} (h : NmC w nm) (l : List Int) : lkn nm l = lki l nm 0 := by
  unfold lkn
  refine if_neg (fun z => ?_)
  rcases lki_b l nm 0 with ⟨_, b, _⟩ | ⟨i, x, a, _, d⟩
  · rw [b] at z
    exact absurd (show (0 : Int) = 10 from z.1) (by decide)
  · rw [d] at z
    have t := (h.2.2 i x a).2.2.2.2.2.1 (show x.2.1 = 10 from z.1)
    have z2 : x.2.2.2 < 0 := z.2
    omega
/-- between two declarations -/
def oq0 : OQ := (-1, 0, fun _ => 0)
def CD (w : MW) (f : Int → Int) (n : Int) (s : DS) : Prop := ZG w f n oq0 s.2.2.2 0 0 (dbl s) ∧ WNm s.2.1 s.2.2.2 ∧ (w.1 108 2).toInt = -1 ∧ ∀ (i : Nat) (x : Nm), s.2.2.2[i]? = some x → 0 ≤ x.2.2.2 → (∃ d, s.2.1[x.2.2.2.toNat]? = some d ∧ d.1 = 35) ∧ (w.1 114 x.2.2.2.toNat).toInt = -1
/-- a new name -/
theorem ct_new {w : MW} {f : Int → Int} {n : Int} {s : DS} {Q : Int64 → MW → Prop} (h : CD w f n s) (hb : ∀ (code : Int64) (w' : MW) (e : Int), ((wrd f n (wrd f n s.1).2.2.1).1 = 33 ∧ e = (wrd f n (wrd f n s.1).2.2.1).2.1) ∨ (¬ (wrd f n (wrd f n s.1).2.2.1).1 = 33 ∧ ¬ ((wrd f n (wrd f n s.1).2.2.1).1 = 30 ∧ (lki (wrd f n (wrd f n s.1).2.2.1).2.2.2.1 s.2.2.2 0).1 < 0 ∧ s.2.2.2.length < 40) ∧ e = (wrd f n (wrd f n s.1).2.2.1).2.1) ∨ (¬ (wrd f n (wrd f n s.1).2.2.1).1 = 33 ∧ ((wrd f n (wrd f n s.1).2.2.1).1 = 30 ∧ (lki (wrd f n (wrd f n s.1).2.2.1).2.2.2.1 s.2.2.2 0).1 < 0 ∧ s.2.2.2.length < 40) ∧ (wrd f n (wrd f n (wrd f n s.1).2.2.1).2.2.1).1 = 33 ∧ e = (wrd f n (wrd f n (wrd f n s.1).2.2.1).2.2.1).2.1) → ZW w' f n s.2.2.2 0 e → Q code w') (hg : ∀ (code : Int64) (w' : MW), ¬ (wrd f n (wrd f n s.1).2.2.1).1 = 33 → ((wrd f n (wrd f n s.1).2.2.1).1 = 30 ∧ (lki (wrd f n (wrd f n s.1).2.2.1).2.2.2.1 s.2.2.2 0).1 < 0 ∧ s.2.2.2.length < 40) → ¬ (wrd f n (wrd f n (wrd f n s.1).2.2.1).2.2.1).1 = 33 → code.toInt = cod 0 (wrd f n (wrd f n s.1).2.2.1).2.2.2.1 → CD w' f n ((wrd f n (wrd f n s.1).2.2.1).2.2.1, s.2) → Q code w') : p_Rd_takeNewName w Q := by
  have X : XS w f n s.2.2.2 0 s.1 s.2.1 := h.1.1
  have hw := X.2.2.2.1
  have b2 := bd_87_2 X.1.1
  have hf := xb_f X.1
  have wn := wrd_n (f := f) (n := n) (p := s.1) hf X.2.2.2.2.2.2.1 X.2.2.2.2.2.2.2
  have wn2 := wrd_n (f := f) (n := n) (p := (wrd f n s.1).2.2.1) hf (by have := X.2.2.2.2.2.2.1; omega) wn.2.1
  refine Eq.mpr (p_Rd_takeNewName.eq_1 _ _) (pnw_x X.1.1 X.1.2.1 X.1.2.2.2.1 X.2.1.2.2.1 (by rw [X.1.2.2.2.2.2.1]; exact wn.2.1) (fun w1 B1 F1 T1 W1 => ?_))
  rw [X.1.2.2.2.2.1, X.1.2.2.2.2.2.1] at T1 W1
  have XB1 : XB w1 f n s.2.2.2 0 := xb_fr X.1 F1 B1 (by rw [T1.2.2.1]; exact wn2.2.1) rfl
  have c3 : (w1.1 87 3).toInt = (wrd f n (wrd f n s.1).2.2.1).1 := T1.1
  have l3 := X.2.2.2.2.2.1
  unfold WrC at W1
  by_cases c : (wrd f n (wrd f n s.1).2.2.1).1 = 33
  · rw [if_pos ⟨c, by omega⟩] at W1
    have Z : ZW w1 f n s.2.2.2 0 (wrd f n (wrd f n s.1).2.2.1).2.1 := ⟨XB1, W1, wn2.2.2.1, by have := (bd_108_1 B1).1; show ((0 : Nat) : Int) ≤ _; omega, Nat.zero_le _⟩
    refine ⟨fun _ => fl_w Z (hb 0 w1 _ (Or.inl ⟨c, rfl⟩) Z), fun z => ?_⟩
    have := Classical.not_not.mp z
    omega
  · rw [if_neg (fun z => c z.1)] at W1
    have X1 : XS w1 f n s.2.2.2 0 (wrd f n s.1).2.2.1 s.2.1 := ⟨XB1, T1, c, by rw [W1]; exact hw, pnc_k X.2.2.2.2.1 (KNd.fr F1 rfl) (F1 108 1 rfl).1, l3, by have := X.2.2.2.2.2.2.1; omega, wn.2.1⟩
    have NM := X1.1.2.2.2.2.2.2.1
    have no : ¬ ((wrd f n (wrd f n s.1).2.2.1).1 = 30 ∧ (lki (wrd f n (wrd f n s.1).2.2.1).2.2.2.1 s.2.2.2 0).1 < 0 ∧ s.2.2.2.length < 40) → p_Rd_fail w1 (fun w3 => (Q 0 w3)) := fun q => fl_g X1 (fun w' F' X' => hb 0 w' _ (Or.inr (Or.inl ⟨c, q, rfl⟩)) (zw_of X'))
    refine ⟨fun z => no (fun q => z (by omega)), fun z => ⟨X1.1.2.2.1, ?_⟩⟩
    have k30 : (wrd f n (wrd f n s.1).2.2.1).1 = 30 := by
      have := Classical.not_not.mp z
      omega
    have wl := wrd_l (f := f) (n := n) (p := (wrd f n s.1).2.2.1) (by omega)
    have ec := T1.2.2.2.1 (by omega)
    have lc := lkn_c NM (wrd f n (wrd f n s.1).2.2.1).2.2.2.1
    refine fd_x NM ec wl.1 wl.2 (fun q => ⟨fun z => absurd z (by decide), fun _ => ⟨X1.1.2.2.1, fun lt => ?_, fun ge => no (fun q => by have := NM.1; have := q.2.2; omega)⟩⟩) (fun i x hx el => ⟨fun _ => no (fun q => ?_), fun z => ?_⟩)
    · rw [lc] at q
      have n0 := NM.1
      have yes : (wrd f n (wrd f n s.1).2.2.1).1 = 30 ∧ (lki (wrd f n (wrd f n s.1).2.2.1).2.2.2.1 s.2.2.2 0).1 < 0 ∧ s.2.2.2.length < 40 := ⟨k30, by omega, by omega⟩
      refine nx_g X1.1 X1.2.2.2.1 X1.2.1.2.2.1 X1.2.2.2.2.1 X1.2.2.2.2.2.1 (fun ok w' F' X' => ?_) (fun bd w' F' X' => hb _ w' _ (Or.inr (Or.inr ⟨c, yes, bd, rfl⟩)) (zw_of X'))
      have F2 : FR lpw w w' := F1.tr F' rfl
      refine hg _ w' c yes ok ec ⟨?_, h.2.1, by rw [(F2 108 2 rfl).1]; exact h.2.2.1, fun i x hx x0 => ⟨(h.2.2.2 i x hx x0).1, by rw [(F2 114 _ rfl).1]; exact (h.2.2.2 i x hx x0).2⟩⟩
      exact zg_x h.1 X' (fr_89 F2 rfl _) (s0_fr F2 rfl) (0, 0, 0)
    · have q2 := q.2.1
      rw [← lc, el] at q2
      have q3 : (i : Int) < 0 := q2
      omega
    · have il := (List.getElem?_eq_some_iff.mp hx).1
      have n4 := NM.2.1
      exact absurd (show 0 ≤ (nI i).toInt by rw [nI_toInt (by omega)]; omega) z
