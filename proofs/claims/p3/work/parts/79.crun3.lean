/-! the class's run: goOn -/
theorem crt_lv2 {a s : Int} {L0 L L' : Int → Prop} {w0 w w' : MW} (h : CrT a L0 w0 w L) (as : a ≤ s) (hF : FR [(80, none), (81, none)] w w') (hB : BND w') (hs : ∀ i, L i → L' i) (hv : LvC L' w') (hg : ∀ i, 0 ≤ i → i < s → yG w' i = yG w i) : CrT a L0 w0 w' L' := by
  refine ⟨⟨hB, h.1.2.1.fr hF rfl, WO_fr hF rfl h.1.2.2.1, hv⟩, h.2.1.tr hF rfl, fun i q => hs i (h.2.2.1 i q), fun i i0 i1 => ?_⟩
  rw [← h.2.2.2 i i0 i1]
  exact hg i i0 (by omega)
/-- the stage of a part that has begun becomes another that is not 0, or the stage of any part becomes 0 -/
theorem lv_stage {L : Int → Prop} {w : MW} {s : Int} {v : Int32} (h : LvC L w) (hs : L s) (hv : ¬ yG w s = 0 ∨ v.toInt = 0) : LvC L (sI w 80 s.toNat v) := by
  have s0 := (h.2.1 s hs).1
  have F : FR [(80, none)] w (sI w 80 s.toNat v) := FR.I (FR.refl _ w) rfl
  have e80 : ∀ j, 0 ≤ j → yG (sI w 80 s.toNat v) j = if j = s then v.toInt else yG w j := fun j j0 => yG_set s0 j0
  have eC : ∀ j, yC (sI w 80 s.toNat v) j = yC w j := fun j => rfl
  have gs : ¬ yG (sI w 80 s.toNat v) s = 0 → ¬ yG w s = 0 := fun g => by
    rw [e80 s s0, if_pos rfl] at g
    cases hv with
    | inl q => exact q
    | inr q => exact absurd q g
  refine lv_upd (a := s) h (SLy.fr F rfl) (fun _ q => q) h.2.1 (fun i q g => ?_) (fun g => ?_) (fun g s1 k n => h.2.2.2.1 s hs (gs g) s1 k n) (fun g s1 k => h.2.2.2.2 s hs (gs g) s1 k)
  · by_cases e : i = s
    · exact Or.inl e
    · rw [e80 i (h.2.1 i q).1, if_neg e] at g
      exact Or.inr ⟨q, g, eC i⟩
  · rw [eC]
    exact h.2.2.1 s hs (gs g)
def GoP (n : Nat) : Prop := ∀ (w : MW) (L : Int → Prop) (a b : Int32) (Q : Int32 → MW → Prop), CrX L w → L a.toInt → ((a.toInt = 0 ∧ ¬ yG w 0 = 0) ∨ (1 ≤ a.toInt ∧ kn w a.toInt = 35)) → 0 ≤ b.toInt → b.toInt ≤ 100 → (3 * (101 - b.toInt) + 2).toNat < n → (∀ (r : Int32) (w' : MW) (L' : Int → Prop), (r.toInt = 0 ∨ r.toInt = 1) → CrT a.toInt L w w' L' → (¬ r.toInt = 0 → ¬ yG w' a.toInt = 0) → (¬ yG w a.toInt = 0 → yG w' a.toInt = yG w a.toInt) → Q r w') → pn_Ru_goOn n w a b Q
def GeP (n : Nat) : Prop := ∀ (w : MW) (L : Int → Prop) (s b : Int32) (Q : Int32 → MW → Prop), CrX L w → L s.toInt → 1 ≤ s.toInt → ¬ kn w s.toInt = 35 → 0 ≤ b.toInt → b.toInt ≤ 99 → (3 * (101 - b.toInt) + 1).toNat < n → (∀ (r : Int32) (w' : MW) (L' : Int → Prop), (r.toInt = 0 ∨ r.toInt = 1) → CrT s.toInt L w w' L' → Q r w') → pn_Ru_goesPast n w s b Q
def SiP (n : Nat) : Prop := ∀ (w : MW) (L : Int → Prop) (s b : Int32) (Q : Int32 → MW → Prop), CrX L w → L s.toInt → 1 ≤ s.toInt → ¬ yG w s.toInt = 0 → kn w s.toInt = 16 → 0 ≤ b.toInt → b.toInt ≤ 99 → (3 * (101 - b.toInt)).toNat < n → (∀ (r : Int32) (w' : MW) (L' : Int → Prop), (r.toInt = 0 ∨ r.toInt = 1) → CrT s.toInt L w w' L' → Q r w') → pn_Ru_endsAllSides n w s b Q
def RnP (n : Nat) : Prop := ∀ (w : MW) (L : Int → Prop) (s b : Int32) (Q : Int32 → MW → Prop), CrX L w → L s.toInt → 1 ≤ s.toInt → ¬ yG w s.toInt = 0 → kn w s.toInt = 19 → 0 ≤ b.toInt → b.toInt ≤ 99 → (3 * (101 - b.toInt)).toNat < n → (∀ (r : Int32) (w' : MW) (L' : Int → Prop), (r.toInt = 0 ∨ r.toInt = 1) → CrT s.toInt L w w' L' → Q r w') → pn_Ru_endsRounds n w s b Q
theorem go_34 {n0 : Nat} (hg : GeP n0) {a b : Int32} {L0 : Int → Prop} {w0 : MW} {E : MW → Prop} {Q : Int32 → MW → Prop} (hL : L0 a.toInt) (hr : a.toInt = 0 ∨ (1 ≤ a.toInt ∧ kn w0 a.toInt = 35)) (b0 : 0 ≤ b.toInt) (b1 : b.toInt ≤ 99) (hm0 : (3 * (101 - b.toInt) + 1).toNat < n0) (hE : ∀ (w' : MW) (L' : Int → Prop), CrT (a.toInt + 1) L0 w0 w' L' → ¬ yG w' a.toInt = 0 → E w') (hQ : ∀ (w' : MW) (L' : Int → Prop), CrT (a.toInt + 1) L0 w0 w' L' → Q 0 w') (n : Nat) : ∀ (i : Int32) (w : MW) (L : Int → Prop), CrT (a.toInt + 1) L0 w0 w L → ¬ yG w a.toInt = 0 → 0 ≤ i.toInt → i.toInt ≤ 501 → (501 - i.toInt).toNat < n → q_Ru_goOn_34 (pn_Ru_endsAllSides n0) (pn_Ru_endsRounds n0) (pn_Ru_goOn n0) (pn_Ru_goesPast n0) a b E Q n i w := by
  induction n with
  | zero => intros; omega
  | succ n ih =>
    intro i w L h hG i0 i1 hm
    have sl := crt_sl h
    have La := h.2.2.1 _ hL
    have ab := h.1.2.2.2.2.1 _ La
    have p5 := h.1.2.1.1.1.2
    have g : 0 ≤ a.toInt ∧ a.toInt < 501 := ⟨ab.1, by omega⟩
    rw [q_Ru_goOn_34.eq_2]
    refine ⟨fun _ => hE w L h hG, fun ci => ⟨g, fun _ => hE w L h hG, fun c => ⟨g, ?_⟩⟩⟩
    have lv := (h.1.2.2.2.2.2.1 _ La hG).resolve_left (by unfold yC; omega)
    have es : yC w a.toInt = (w.1 81 a.toInt.toNat).toInt := rfl
    rw [es] at lv
    have ls := lv.2.1
    have sb := h.1.2.2.2.2.1 _ ls
    have ks : ¬ kn w (w.1 81 a.toInt.toNat).toInt = 35 := lv.2.2.1 (by rw [sl.2.2.2.2.1]; omega)
    have s1 : 1 ≤ (w.1 81 a.toInt.toNat).toInt := by omega
    refine hg w L _ b _ h.1 ls s1 ks b0 b1 hm0 (fun r8 w8 L8 _ t8 => ?_)
    have h8 := crt_tr h (by omega) t8
    refine ⟨fun _ => ⟨⟨by omega, by omega⟩, ?_⟩, fun _ => hQ w8 L8 h8⟩
    have sl8 := crt_sl t8
    have PS := h8.1.2.1.1.2.2.2 _ s1 (by rw [sl8.1]; omega)
    have nx := PS.2.2.1
    have k8 := PS.2.2.2.2.2
    have en : (w8.1 79 (w.1 81 a.toInt.toNat).toInt.toNat).toInt = pNx w8 (w.1 81 a.toInt.toNat).toInt := rfl
    have si := ti_add2 (Eq.refl i.toInt) i_1 (by omega) (by omega)
    have ya : yG w8 a.toInt = yG w a.toInt := t8.2.2.2 _ ab.1 (by omega)
    refine lv_choose h8.1.1 h8.1.2.2.2 (h8.2.2.1 _ hL) (by rw [en]; omega) (fun q => ⟨fun _ => ?_, fun q1 q2 => ?_⟩) h8.1.2.1.1.1.2 (fun w11 L11 hB hF hs hv _ hgg _ => ih _ w11 L11 (crt_lv2 h8 (Int.le_refl _) hF hB hs hv (fun j j0 j1 => hgg j j0 (by omega))) ?_ (by omega) (by omega) (by omega))
    · rw [en] at q ⊢
      intro z
      exact ks (by rw [← sl8.2.2.2.2.1]; exact (k8 q).1 z)
    · rw [sl8.2.2.2.2.1, sl.2.2.2.2.1] at q2
      omega
    · rw [hgg _ ab.1 (Int.le_refl _), ya]
      exact hG
theorem go_step {n : Nat} (hg : GeP n) : GoP (n + 1) := by
  intro w L a b Q h hL hr b0 b1 hm hQ
  rw [pe_Ru_goOn]
  have p5 := h.2.1.1.1.2
  have ab := h.2.2.2.2.1 _ hL
  have g : 0 ≤ a.toInt ∧ a.toInt < 501 := ⟨ab.1, by omega⟩
  have h0 : CrT a.toInt L w w L := crt_0 h
  refine Eq.mpr (pb_Ru_goOn.eq_1 _ _ _ _ _ _ _ _) ⟨fun c => ⟨g, fun c0 => ?_, fun c0 => ?_⟩, fun _ => hQ 0 w L (Or.inl i_0) h0 (fun q => absurd i_0 q) (fun _ => rfl)⟩
  · refine go_34 hg hL (by omega) b0 (by omega) (by omega) (fun w' L' t g' => ?_) (fun w' L' t => ?_) FU 0 w L (crt_0 h) c0 (by decide) (by decide) (by decide)
    · have e := t.2.2.2 _ ab.1 (by omega)
      exact ⟨g, fun _ => hQ 0 w' L' (Or.inl i_0) (crt_le t (by omega)) (fun q => absurd i_0 q) (fun _ => e), fun _ => hQ 1 w' L' (Or.inr i_1) (crt_le t (by omega)) (fun _ => g') (fun _ => e)⟩
    · have e := t.2.2.2 _ ab.1 (by omega)
      exact hQ 0 w' L' (Or.inl i_0) (crt_le t (by omega)) (fun q => absurd i_0 q) (fun _ => e)
  · have z : yG w a.toInt = 0 := Classical.not_not.mp c0
    have hr2 : 1 ≤ a.toInt ∧ kn w a.toInt = 35 := by
      cases hr with
      | inl q => rw [q.1] at z; exact absurd z q.2
      | inr q => exact q
    refine cr_may h0 hr2.1 ab.2 (fun r15 w15 h15 _ => ⟨fun _ => ?_, fun _ => hQ 0 w15 L (Or.inl i_0) h15 (fun q => absurd i_0 q) (fun q => absurd z q)⟩)
    refine lv_enter h15.1.1 h15.1.2.1.1 h15.1.2.2.2 hL (Or.inr (by rw [(crt_sl h15).2.2.2.2.1]; exact hr2.2)) (fun w17 L17 f t g17 => ?_)
    have h17 := crt_lv h15 (Int.le_refl _) f t
    refine go_34 hg (h17.2.2.1 _ hL) (Or.inr ⟨hr2.1, by rw [(crt_sl h17).2.2.2.2.1]; exact hr2.2⟩) b0 (by omega) (by omega) (fun w' L' t g' => ?_) (fun w' L' t => ?_) FU 0 w17 L17 (crt_0 h17.1) (by omega) (by decide) (by decide) (by decide)
    · have u := crt_tr h17 (by omega) t
      exact ⟨g, fun _ => hQ 0 w' L' (Or.inl i_0) u (fun q => absurd i_0 q) (fun q => absurd z q), fun _ => hQ 1 w' L' (Or.inr i_1) u (fun _ => g') (fun q => absurd z q)⟩
    · exact hQ 0 w' L' (Or.inl i_0) (crt_tr h17 (by omega) t) (fun q => absurd i_0 q) (fun q => absurd z q)
theorem si_13 {n0 : Nat} (hg : GoP n0) {s b : Int32} {L0 : Int → Prop} {w0 : MW} {E Q : Int32 → MW → Prop} (hz : RLz w0) (s1 : 1 ≤ s.toInt) (b0 : 0 ≤ b.toInt) (b1 : b.toInt ≤ 99) (hm0 : (3 * (101 - b.toInt)).toNat ≤ n0) (hE : ∀ (r : Int32) (w' : MW) (L' : Int → Prop), (r.toInt = 0 ∨ r.toInt = 1) → CrT s.toInt L0 w0 w' L' → E r w') (hQ : ∀ (w' : MW) (L' : Int → Prop), CrT s.toInt L0 w0 w' L' → Q 0 w') (n : Nat) : ∀ (y x i : Int32) (w : MW) (L : Int → Prop), CrT s.toInt L0 w0 w L → (y.toInt = 0 ∨ y.toInt = 1) → (x.toInt = -1 ∨ (s.toInt < x.toInt ∧ x.toInt < pts w0 ∧ kn w0 x.toInt = 35)) → (∀ m, nxI w0 m x.toInt = -1 ∨ L0 (nxI w0 m x.toInt)) → 0 ≤ i.toInt → i.toInt ≤ 501 → (501 - i.toInt).toNat < n → q_Ru_endsAllSides_13 (pn_Ru_endsAllSides n0) (pn_Ru_endsRounds n0) (pn_Ru_goOn n0) (pn_Ru_goesPast n0) b E Q n y x i w := by
  induction n with
  | zero => intros; omega
  | succ n ih =>
    intro y x i w L h hy hx hn i0 i1 hm
    have sl := crt_sl h
    have p5 := hz.1.2
    rw [q_Ru_endsAllSides_13.eq_2]
    refine ⟨fun _ => hE y w L hy h, fun ci => ⟨fun _ => hE y w L hy h, fun cx => ?_⟩⟩
    have hx := hx.resolve_left (by omega)
    have g : 0 ≤ x.toInt ∧ x.toInt < 501 := ⟨by omega, by omega⟩
    have PX := hz.2.2.2 x.toInt (by omega) hx.2.1
    have nx := PX.2.2.1
    have kx := PX.2.2.2.2.2
    have Lx : L0 x.toInt := by
      have q := hn 0
      have e : nxI w0 0 x.toInt = x.toInt := rfl
      rw [e] at q
      exact q.resolve_left (by omega)
    have si := ti_add2 (Eq.refl i.toInt) i_1 (by omega) (by omega)
    have nxt : ∀ (w' : MW) (L' : Int → Prop) (y' : Int32), CrT s.toInt L0 w0 w' L' → (y'.toInt = 0 ∨ y'.toInt = 1) → q_Ru_endsAllSides_13 (pn_Ru_endsAllSides n0) (pn_Ru_endsRounds n0) (pn_Ru_goOn n0) (pn_Ru_goesPast n0) b E Q n y' (w'.1 79 x.toInt.toNat) (i + (1 : Int32)) w' := fun w' L' y' h' hy' => by
      have e : (w'.1 79 x.toInt.toNat).toInt = pNx w0 x.toInt := (crt_sl h').2.2.2.1 x.toInt
      refine ih y' _ _ w' L' h' hy' ?_ (fun m => ?_) (by omega) (by omega) (by omega)
      · rw [e]
        by_cases c : pNx w0 x.toInt = -1
        · exact Or.inl c
        · exact Or.inr ⟨by omega, by omega, (kx (by omega)).2 hx.2.2⟩
      · rw [e]
        have q := hn (m + 1)
        have e2 : nxI w0 (m + 1) x.toInt = nxI w0 m (pNx w0 x.toInt) := by
          show nxI w0 m (if x.toInt < 0 then -1 else pNx w0 x.toInt) = _
          rw [if_neg cx]
        rw [e2] at q
        exact q
    have sb := ti_add2 (Eq.refl b.toInt) i_1 (by omega) (by omega)
    refine ⟨g, fun _ => ru_over (fun r6 _ => ⟨fun _ => ⟨g, nxt w L y h hy⟩, fun _ => hQ w L h⟩), fun _ => ?_⟩
    refine hg w L x _ _ h.1 (h.2.2.1 _ Lx) (Or.inr ⟨by omega, by rw [sl.2.2.2.2.1]; exact hx.2.2⟩) (by omega) (by omega) (by omega) (fun r9 w9 L9 _ t9 g9 _ => ?_)
    have h9 := crt_tr h (by omega) t9
    refine ⟨fun _ => ru_over (fun r11 _ => ⟨fun _ => ⟨g, nxt w9 L9 0 h9 (Or.inl i_0)⟩, fun _ => hQ w9 L9 h9⟩), fun c9 => ⟨g, ?_⟩⟩
    have hv := lv_stage (v := 2) h9.1.2.2.2 (h9.2.2.1 _ Lx) (Or.inl (g9 c9))
    have F : FR [(80, none), (81, none)] w9 (sI w9 80 x.toInt.toNat 2) := FR.I (FR.refl _ w9) rfl
    have hA : CrT s.toInt L0 w0 (sI w9 80 x.toInt.toNat 2) L9 := crt_lv2 (s := x.toInt) h9 (by omega) F (wbd_80 h9.1.1 _ (by decide) (by decide)) (fun _ q => q) hv (fun j j0 j1 => by rw [yG_set g.1 j0, if_neg (by omega)])
    exact ru_over (fun r15 _ => ⟨fun _ => ⟨g, nxt _ L9 y hA hy⟩, fun _ => hQ _ L9 hA⟩)
theorem si_step {n : Nat} (hg : GoP n) : SiP (n + 1) := by
  intro w L s b Q h hL s1 hG k b0 b1 hm hQ
  rw [pe_Ru_endsAllSides]
  have z := h.2.1.1
  have ab := h.2.2.2.2.1 _ hL
  have p5 := z.1.2
  have PS := z.2.2.2 _ s1 ab.2
  have f := PS.2.1
  have kf := PS.2.2.2.2.1
  have ef : (w.1 78 s.toInt.toNat).toInt = pFi w s.toInt := rfl
  refine Eq.mpr (pb_Ru_endsAllSides.eq_1 _ _ _ _ _ _ _ _) ⟨⟨ab.1, by omega⟩, si_13 hg z s1 b0 b1 (by omega) (fun r w' L' hr t => ⟨hr, hQ r w' L' hr t⟩) (fun w' L' t => hQ 0 w' L' (Or.inl i_0) t) FU 1 _ 0 w L (crt_0 h) (Or.inr i_1) ?_ (fun m => ?_) (by decide) (by decide) (by decide)⟩
  · rw [ef]
    by_cases c : pFi w s.toInt = -1
    · exact Or.inl c
    · exact Or.inr ⟨by omega, by omega, (kf (by omega)).2 (by omega)⟩
  · exact h.2.2.2.2.2.2.1 _ hL hG s1 k m
theorem rn_2 {n0 : Nat} (hg : GoP n0) {s b : Int32} {L0 : Int → Prop} {w0 : MW} {E : MW → Prop} {Q : Int32 → MW → Prop} (hz : RLz w0) (s1 : 1 ≤ s.toInt) (s2 : s.toInt < pts w0) (k : kn w0 s.toInt = 19) (hf : L0 (pFi w0 s.toInt)) (b0 : 0 ≤ b.toInt) (b1 : b.toInt ≤ 99) (hm0 : (3 * (101 - b.toInt)).toNat ≤ n0) (hE : ∀ (w' : MW) (L' : Int → Prop), CrT s.toInt L0 w0 w' L' → E w') (hQ : ∀ (w' : MW) (L' : Int → Prop), CrT s.toInt L0 w0 w' L' → Q 0 w') (n : Nat) : ∀ (i : Int32) (w : MW) (L : Int → Prop), CrT s.toInt L0 w0 w L → 0 ≤ i.toInt → i.toInt ≤ 1002 → (1002 - i.toInt).toNat < n → q_Ru_endsRounds_2 (pn_Ru_endsAllSides n0) (pn_Ru_endsRounds n0) (pn_Ru_goOn n0) (pn_Ru_goesPast n0) s b E Q n i w := by
  induction n with
  | zero => intros; omega
  | succ n ih =>
    intro i w L h i0 i1 hm
    have sl := crt_sl h
    have p5 := hz.1.2
    have PS := hz.2.2.2 _ s1 s2
    have f1 := PS.2.2.2.1 (by omega)
    have f2 := PS.2.1
    have kf := (PS.2.2.2.2.1 (by omega)).2 (by omega)
    have g : 0 ≤ s.toInt ∧ s.toInt < 501 := ⟨by omega, by omega⟩
    have si := ti_add2 (Eq.refl i.toInt) i_1 (by omega) (by omega)
    have sb := ti_add2 (Eq.refl b.toInt) i_1 (by omega) (by omega)
    rw [q_Ru_endsRounds_2.eq_2]
    refine ⟨fun _ => hE w L h, fun ci => ⟨g, fun _ => hE w L h, fun cx => ⟨g, ?_⟩⟩⟩
    have ef : (w.1 78 s.toInt.toNat).toInt = pFi w0 s.toInt := sl.2.2.1 _
    refine hg w L _ _ _ h.1 (by rw [ef]; exact h.2.2.1 _ hf) (Or.inr ⟨by rw [ef]; omega, by rw [ef, sl.2.2.2.2.1]; exact kf⟩) (by omega) (by omega) (by omega) (fun r5 w5 L5 _ t5 _ _ => ?_)
    have h5 := crt_tr h (by rw [ef]; omega) t5
    have e5 : (w5.1 78 s.toInt.toNat).toInt = pFi w0 s.toInt := (crt_sl h5).2.2.1 _
    refine ⟨fun _ => ⟨g, g, g, by rw [e5]; omega, ?_⟩, fun _ => hQ w5 L5 h5⟩
    have hJ : CrT s.toInt L0 w0 (sJ w5 82 s.toInt.toNat ((w5.2.1 82 s.toInt.toNat) - (1 : Int64))) L5 := crt_J h5 rfl rfl
    generalize (sJ w5 82 s.toInt.toNat ((w5.2.1 82 s.toInt.toNat) - (1 : Int64))) = w6 at *
    rw [e5]
    have hv := lv_stage (v := 0) hJ.1.2.2.2 (hJ.2.2.1 _ hf) (Or.inr i_0)
    have F : FR [(80, none), (81, none)] w6 (sI w6 80 (pFi w0 s.toInt).toNat 0) := FR.I (FR.refl _ w6) rfl
    exact ih _ _ L5 (crt_lv2 (s := pFi w0 s.toInt) hJ (by omega) F (wbd_80 hJ.1.1 _ (by decide) (by decide)) (fun _ q => q) hv (fun j j0 j1 => by rw [yG_set (by omega) j0, if_neg (by omega)])) (by omega) (by omega) (by omega)
theorem rn_step {n : Nat} (hg : GoP n) : RnP (n + 1) := by
  intro w L s b Q h hL s1 hG k b0 b1 hm hQ
  rw [pe_Ru_endsRounds]
  have z := h.2.1.1
  have ab := h.2.2.2.2.1 _ hL
  have p5 := z.1.2
  have g : 0 ≤ s.toInt ∧ s.toInt < 501 := ⟨by omega, by omega⟩
  exact Eq.mpr (pb_Ru_endsRounds.eq_1 _ _ _ _ _ _ _ _) (rn_2 hg z s1 ab.2 k (h.2.2.2.2.2.2.2 _ hL hG s1 k) b0 b1 (by omega) (fun w' L' t => ⟨g, fun _ => hQ 0 w' L' (Or.inl i_0) t, fun _ => hQ 1 w' L' (Or.inr i_1) t⟩) (fun w' L' t => hQ 0 w' L' (Or.inl i_0) t) FU 0 w L (crt_0 h) (by decide) (by decide) (by decide))
theorem ge_94 {n : Nat} (hgo : GoP n) (hsi : SiP n) (hrn : RnP n) {s b k y : Int32} {L0 L : Int → Prop} {w0 w : MW} {Q : Int32 → MW → Prop} (h : CrT s.toInt L0 w0 w L) (hL : L0 s.toInt) (s1 : 1 ≤ s.toInt) (k35 : ¬ kn w0 s.toInt = 35) (hk : k.toInt = kn w0 s.toInt) (b0 : 0 ≤ b.toInt) (b1 : b.toInt ≤ 99) (hm : (3 * (101 - b.toInt)).toNat < n) (hy : y.toInt = 2 → ¬ yG w s.toInt = 0) (hQ : ∀ (r : Int32) (w' : MW) (L' : Int → Prop), (r.toInt = 0 ∨ r.toInt = 1) → CrT s.toInt L0 w0 w' L' → Q r w') : q_Ru_goesPast_94 (pn_Ru_endsAllSides n) (pn_Ru_endsRounds n) (pn_Ru_goOn n) (pn_Ru_goesPast n) s b k y w Q := by
  have sl := crt_sl h
  have Ls := h.2.2.1 _ hL
  have ab := h.1.2.2.2.2.1 _ Ls
  have p5 := h.1.2.1.1.1.2
  have g : 0 ≤ s.toInt ∧ s.toInt < 501 := ⟨by omega, by omega⟩
  have sb := ti_add2 (Eq.refl b.toInt) i_1 (by omega) (by omega)
  have q0 : ∀ (w' : MW) (L' : Int → Prop), CrT s.toInt L0 w0 w' L' → Q 0 w' := fun w' L' t => hQ 0 w' L' (Or.inl i_0) t
  have q1 : ∀ (w' : MW) (L' : Int → Prop), CrT s.toInt L0 w0 w' L' → Q 1 w' := fun w' L' t => hQ 1 w' L' (Or.inr i_1) t
  refine Eq.mpr (q_Ru_goesPast_94.eq_1 _ _ _ _ _ _ _ _ _ _) ⟨fun c2 => ⟨fun c16 => ⟨fun c19 => ⟨g, fun _ => q1 w L h, fun c => ⟨g, ?_⟩⟩, fun c19 => ?_⟩, fun c16 => ?_⟩, fun _ => ⟨fun _ => q0 w L h, fun _ => q1 w L h⟩⟩
  · have lv := (h.1.2.2.2.2.2.1 _ Ls (hy c2)).resolve_left (by unfold yC; omega)
    have es : yC w s.toInt = (w.1 81 s.toInt.toNat).toInt := rfl
    rw [es] at lv
    have kc : kn w (w.1 81 s.toInt.toNat).toInt = 35 := lv.2.2.2 s1 (by rw [sl.2.2.2.2.1]; exact k35)
    exact hgo w L _ _ _ h.1 lv.2.1 (Or.inr ⟨by omega, kc⟩) (by omega) (by omega) (by omega) (fun r w' L' _ t _ _ => ⟨fun _ => q0 _ _ (crt_tr h (by omega) t), fun _ => q1 _ _ (crt_tr h (by omega) t)⟩)
  · exact hrn w L s b _ h.1 Ls s1 (hy c2) (by rw [sl.2.2.2.2.1]; omega) b0 b1 hm (fun r w' L' hr t => hQ r w' L' hr (crt_tr h (Int.le_refl _) t))
  · exact hsi w L s b _ h.1 Ls s1 (hy c2) (by rw [sl.2.2.2.2.1]; omega) b0 b1 hm (fun r w' L' hr t => hQ r w' L' hr (crt_tr h (Int.le_refl _) t))
theorem ge_step {n : Nat} (hgo : GoP n) (hsi : SiP n) (hrn : RnP n) : GeP (n + 1) := by
  intro w L s b Q h hL s1 k35 b0 b1 hm hQ
  rw [pe_Ru_goesPast]
  have z := h.2.1.1
  have ab := h.2.2.2.2.1 _ hL
  have p5 := z.1.2
  have g : 0 ≤ s.toInt ∧ s.toInt < 501 := ⟨by omega, by omega⟩
  have h0 : CrT s.toInt L w w L := crt_0 h
  have PS := z.2.2.2 _ s1 ab.2
  have pn := PS.1
  have b62 := bd_62_1 h.1
  have en : ∀ w', (w'.1 77 s.toInt.toNat).toInt = pN w' s.toInt := fun w' => rfl
  have ek : (w.1 63 (w.1 77 s.toInt.toNat).toInt.toNat).toInt = kn w s.toInt := rfl
  have r3 := h.2.1.2.2.2.2.2.2.2.2.1
  have fin : ∀ (y : Int32) (w' : MW) (L' : Int → Prop), CrT s.toInt L w w' L' → (y.toInt = 2 → ¬ yG w' s.toInt = 0) → q_Ru_goesPast_94 (pn_Ru_endsAllSides n) (pn_Ru_endsRounds n) (pn_Ru_goOn n) (pn_Ru_goesPast n) s b (w.1 63 (w.1 77 s.toInt.toNat).toInt.toNat) y w' Q := fun y w' L' t hy => ge_94 hgo hsi hrn t hL s1 k35 ek b0 b1 (by omega) hy hQ
  refine Eq.mpr (pb_Ru_goesPast.eq_1 _ _ _ _ _ _ _ _) ⟨r3, g, by rw [en]; omega, g, fun c0 => ?_, fun c0 => ?_⟩
  · refine cr_may h0 s1 ab.2 (fun r6 w6 h6 g6 => ⟨fun _ => fin 0 w6 L h6 (fun q => absurd q (by decide)), fun _ => ?_⟩)
    have p6 := crt_pq h6 s1 ab.2
    have pn6 := p6.1.1
    have b626 := bd_62_1 h6.1.1
    have r36 := h6.1.2.1.2.2.2.2.2.2.2.2.1
    have g2 : 0 ≤ (w6.1 77 s.toInt.toNat).toInt ∧ (w6.1 77 s.toInt.toNat).toInt < 301 := by rw [en]; omega
    refine ⟨r36, g, g2, r36, g, g2, fun _ => ?_, fun c => ?_⟩
    · exact cr_plain z h6 (Int.le_refl _) s1 ab.2 hL k35 ek (fun r w' L' hr t => fin r w' L' t (fun q => by have := hr q; omega))
    · have k6 : (w6.1 63 (w6.1 77 s.toInt.toNat).toInt.toNat).toInt = kn w s.toInt := p6.2.2.2
      have hk := (h6.1.2.1.2.2.1 (w6.1 77 s.toInt.toNat) g2.1 (by rw [en]; omega)).2 (by omega)
      exact cr_reckoned z h6 (Int.le_refl _) s1 ab.2 hL ek (by omega) (fun r w' L' hr t => fin r w' L' t (fun q => by have := hr q; omega))
  · exact cr_again h0 s1 ab.2 ek (fun r w' hr t => fin r w' L t (fun q => by rw [hr q]; exact c0))
theorem cgo_all (n : Nat) : GoP n ∧ GeP n ∧ SiP n ∧ RnP n := by
  induction n with
  | zero =>
    refine ⟨?_, ?_, ?_, ?_⟩
    · intro w L a b Q _ _ _ _ _ hm; omega
    · intro w L a b Q _ _ _ _ _ _ hm; omega
    · intro w L a b Q _ _ _ _ _ _ _ hm; omega
    · intro w L a b Q _ _ _ _ _ _ _ hm; omega
  | succ n ih => exact ⟨go_step ih.2.1, ge_step ih.1 ih.2.2.1 ih.2.2.2, si_step ih.1, rn_step ih.1⟩
theorem cr_goOn {w : MW} {L : Int → Prop} {Q : Int32 → MW → Prop} (h : CrX L w) (h0 : ¬ yG w 0 = 0) (hQ : ∀ (r : Int32) (w' : MW) (L' : Int → Prop), (r.toInt = 0 ∨ r.toInt = 1) → CrT 0 L w w' L' → yG w' 0 = yG w 0 → Q r w') : p_Ru_goOn w 0 0 Q :=
  (cgo_all 400).1 w L 0 0 Q h h.2.2.2.1 (Or.inl ⟨i_0, h0⟩) (by decide) (by decide) (by decide) (fun r w' L' hr t _ e => hQ r w' L' hr t (e h0))
