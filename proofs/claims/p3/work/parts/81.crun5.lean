/-! the class's run: seek, answers, tick -/
theorem crx_fr {l : Pl} {L : Int → Prop} {w w' : MW} (h : CrX L w) (hF : FR l w w') (hB : BND w') (ho : off l lcw = true) : CrX L w' := ⟨hB, h.2.1.fr hF (off_mono ho (by decide)), WO_fr hF (off_mono ho (by decide)) h.2.2.1, lv_fr h.2.2.2 hF (off_mono ho (by decide))⟩
def SkR (L : Int → Prop) (b : Int32) (w : MW) (r : Int32) : Prop := r.toInt = -1 ∨ (L r.toInt ∧ 1 ≤ r.toInt ∧ (b.toInt = 0 ∨ kn w r.toInt = 22))
def SkP (n : Nat) : Prop := ∀ (w : MW) (L : Int → Prop) (a b c : Int32) (Q : Int32 → MW → Prop), CrX L w → L a.toInt → 0 ≤ c.toInt → c.toInt ≤ 100 → (101 - c.toInt).toNat < n → (∀ (r : Int32) (w' : MW), BND w' → FR l_Ru_seek w w' → SkR L b w r → Q r w') → pn_Ru_seek n w a b c Q
theorem sk_114 {n0 : Nat} (hg : SkP n0) {b c s k : Int32} {L : Int → Prop} {w0 : MW} {E Q : Int32 → MW → Prop} (h0 : CrX L w0) (c0 : 0 ≤ c.toInt) (c1 : c.toInt ≤ 99) (hm0 : (100 - c.toInt).toNat < n0) (hE : ∀ (r : Int32) (w' : MW), BND w' → FR l_Ru_seek w0 w' → SkR L b w0 r → E r w') (n : Nat) : ∀ (x f i : Int32) (w : MW), BND w → FR l_Ru_seek w0 w → SkR L b w0 f → (x.toInt = -1 ∨ (1 ≤ x.toInt ∧ x.toInt < pts w0)) → (∀ m, nxI w0 m x.toInt = -1 ∨ L (nxI w0 m x.toInt)) → 0 ≤ i.toInt → i.toInt ≤ 501 → (501 - i.toInt).toNat < n → q_Ru_seek_114 (pn_Ru_seek n0) b c s k E Q n x f i w := by
  have hz := h0.2.1.1
  induction n with
  | zero => intros; omega
  | succ n ih =>
    intro x f i w hB hF hf hx hn i0 i1 hm
    have p5 := hz.1.2
    rw [q_Ru_seek_114.eq_2]
    refine ⟨fun _ => hE f w hB hF hf, fun ci => ⟨fun _ => hE f w hB hF hf, fun cx => ⟨fun _ => hE f w hB hF hf, fun cf => ?_⟩⟩⟩
    have hx := hx.resolve_left (by omega)
    have PX := hz.2.2.2 x.toInt (by omega) hx.2
    have nx := PX.2.2.1
    have Lx : L x.toInt := by
      have q := hn 0
      have e : nxI w0 0 x.toInt = x.toInt := rfl
      rw [e] at q
      exact q.resolve_left (by omega)
    have si := ti_add2 (Eq.refl i.toInt) i_1 (by omega) (by omega)
    have sb := ti_add2 (Eq.refl c.toInt) i_1 (by omega) (by omega)
    refine hg w L x _ _ _ (crx_fr h0 hF hB rfl) Lx (by omega) (by omega) (by omega) (fun r w' hB' hF' hr => ⟨⟨by omega, by omega⟩, ?_⟩)
    have F := hF.tr hF' rfl
    have e : (w'.1 79 x.toInt.toNat).toInt = pNx w0 x.toInt := (SLy.fr F rfl).2.2.2.1 x.toInt
    refine ih _ _ _ w' hB' F ?_ (by rw [e]; omega) (fun m => ?_) (by omega) (by omega) (by omega)
    · cases hr with
      | inl q => exact Or.inl q
      | inr q => exact Or.inr ⟨q.1, q.2.1, by rw [← (SLy.fr hF rfl).2.2.2.2.1]; exact q.2.2⟩
    · rw [e]
      have q := hn (m + 1)
      have e2 : nxI w0 (m + 1) x.toInt = nxI w0 m (pNx w0 x.toInt) := by
        show nxI w0 m (if x.toInt < 0 then -1 else pNx w0 x.toInt) = _
        rw [if_neg cx]
      rw [e2] at q
      exact q
theorem sk_192 {r_s : MW → Int32 → Int32 → Int32 → (Int32 → MW → Prop) → Prop} {s : Int32} {w : MW} {Q : Int32 → MW → Prop} (hB : BND w) (hQ : ∀ (r : Int32) (w' : MW), BND w' → FR l_Ru_seek w w' → (r = -1 ∨ r = s) → Q r w') : q_Ru_seek_192 r_s s w Q := by
  have F : FR l_Ru_seek w (sI w 61 15 ((w.1 61 15) - (1 : Int32))) := FR.I (FR.refl _ w) rfl
  exact Eq.mpr (q_Ru_seek_192.eq_1 _ _ _ _) ⟨fun _ => hQ _ _ (wbd_61_15 hB) F (Or.inl rfl), fun _ => hQ _ _ (wbd_61_15 hB) F (Or.inr rfl)⟩
theorem sk_106 {n0 : Nat} (hg : SkP n0) {b c s k x : Int32} {L : Int → Prop} {w : MW} {Q : Int32 → MW → Prop} (h : CrX L w) (c0 : 0 ≤ c.toInt) (c1 : c.toInt ≤ 99) (hm0 : (100 - c.toInt).toNat < n0) (s1 : 1 ≤ s.toInt) (hL : L s.toInt) (hk : k.toInt = kn w s.toInt) (hx : x.toInt = -1 ∨ (1 ≤ x.toInt ∧ x.toInt < pts w)) (hn : ∀ m, nxI w m x.toInt = -1 ∨ L (nxI w m x.toInt)) (hQ : ∀ (r : Int32) (w' : MW), BND w' → FR l_Ru_seek w w' → SkR L b w r → Q r w') : q_Ru_seek_106 (pn_Ru_seek n0) b c s k x w Q := by
  have p5 := h.2.1.1.1.2
  have ab := h.2.2.2.2.1 _ hL
  have fin : ∀ w', BND w' → FR l_Ru_seek w w' → (b.toInt = 0 ∨ k.toInt = 22) → q_Ru_seek_192 (pn_Ru_seek n0) s w' Q := fun w' hB hF hh => sk_192 hB (fun r w2 hB2 hF2 hr => hQ r w2 hB2 (hF.tr hF2 rfl) (by
    cases hr with
    | inl q => exact Or.inl (by rw [q]; exact i_m1)
    | inr q => exact Or.inr (by rw [q]; exact ⟨hL, s1, by omega⟩)))
  refine Eq.mpr (q_Ru_seek_106.eq_1 _ _ _ _ _ _ _ _) (sk_114 hg h c0 c1 hm0 (fun f w' hB hF hf => ⟨fun _ => hQ f w' hB hF hf, fun _ => ⟨fun c => fin w' hB hF (Or.inl c), fun _ => ⟨fun _ => hQ f w' hB hF hf, fun c22 => ⟨⟨by omega, by omega⟩, fun _ => fin w' hB hF (Or.inr (Classical.not_not.mp c22)), fun _ => hQ f w' hB hF hf⟩⟩⟩⟩) FU x (-1) 0 w h.1 (FR.refl _ w) (Or.inl i_m1) hx hn (by decide) (by decide) (by decide))
theorem sk_20 {n0 : Nat} (hg : SkP n0) {b c s : Int32} {L : Int → Prop} {w : MW} {Q : Int32 → MW → Prop} (h : CrX L w) (c0 : 0 ≤ c.toInt) (hm0 : c.toInt < 100 → (100 - c.toInt).toNat < n0) (hs : s.toInt = -1 ∨ (1 ≤ s.toInt ∧ L s.toInt)) (hQ : ∀ (r : Int32) (w' : MW), BND w' → FR l_Ru_seek w w' → SkR L b w r → Q r w') : q_Ru_seek_20 (pn_Ru_seek n0) b c s w Q := by
  have z := h.2.1.1
  have p5 := z.1.2
  have q0 : Q (-1) w := hQ _ w h.1 (FR.refl _ w) (Or.inl i_m1)
  refine Eq.mpr (q_Ru_seek_20.eq_1 _ _ _ _ _ _) ⟨fun _ => q0, fun cs => ?_⟩
  have hs := hs.resolve_left (by omega)
  have sp := h.2.2.2.2.1 _ hs.2
  have g : 0 ≤ s.toInt ∧ s.toInt < 501 := ⟨by omega, by omega⟩
  have PS := z.2.2.2 _ hs.1 sp.2
  have pn := PS.1
  have f := PS.2.1
  have b62 := bd_62_1 h.1
  have en : (w.1 77 s.toInt.toNat).toInt = pN w s.toInt := rfl
  have ef : (w.1 78 s.toInt.toNat).toInt = pFi w s.toInt := rfl
  have ek : (w.1 63 (w.1 77 s.toInt.toNat).toInt.toNat).toInt = kn w s.toInt := rfl
  refine ⟨g, fun _ => q0, fun hG => ⟨fun cb => ⟨g, fun _ => ⟨h.2.1.2.2.2.2.2.2.2.2.1, g, by rw [en]; omega, fun _ => ?_, fun c16 => ⟨g, ?_⟩⟩, fun cc => ⟨g, ?_⟩⟩, fun _ => q0⟩⟩
  · exact sk_106 hg h c0 (by omega) (hm0 cb) hs.1 hs.2 ek (Or.inl i_m1) (fun m => by rw [i_m1]; exact Or.inl (nxI_neg w m)) hQ
  · have k16 : kn w s.toInt = 16 := by rw [← ek]; exact Classical.not_not.mp c16
    exact sk_106 hg h c0 (by omega) (hm0 cb) hs.1 hs.2 ek (by rw [ef]; omega) (fun m => by rw [ef]; exact h.2.2.2.2.2.2.1 _ hs.2 hG hs.1 k16 m) hQ
  · have lv := (h.2.2.2.2.2.1 _ hs.2 hG).resolve_left (by unfold yC; omega)
    have es : yC w s.toInt = (w.1 81 s.toInt.toNat).toInt := rfl
    rw [es] at lv
    have sb := ti_add2 (Eq.refl c.toInt) i_1 (by omega) (by omega)
    have := hm0 cb
    exact hg w L _ _ _ _ h lv.2.1 (by omega) (by omega) (by omega) hQ
theorem sk_all (n : Nat) : SkP n := by
  induction n with
  | zero => intro w L a b c Q _ _ _ _ hm; omega
  | succ n ih =>
    intro w L a b c Q h hL c0 c1 hm hQ
    rw [pe_Ru_seek]
    have p5 := h.2.1.1.1.2
    have ab := h.2.2.2.2.1 _ hL
    have g : 0 ≤ a.toInt ∧ a.toInt < 501 := ⟨ab.1, by omega⟩
    refine Eq.mpr (pb_Ru_seek.eq_1 _ _ _ _ _ _) ⟨g, fun _ => sk_20 ih h c0 (by omega) (Or.inl i_m1) hQ, fun c => ⟨g, sk_20 ih h c0 (by omega) ?_ hQ⟩⟩
    have c1 : yG w a.toInt = 1 := Classical.not_not.mp c
    have lv := h.2.2.2.2.2.1 _ hL (by omega)
    have es : yC w a.toInt = (w.1 81 a.toInt.toNat).toInt := rfl
    rw [es] at lv
    cases lv with
    | inl q => exact Or.inl q
    | inr q => exact Or.inr ⟨by omega, q.2.1⟩
/-- what holds of the run between calls -/
def RnI (w : MW) : Prop := ((w.1 61 4).toInt = 0 ∨ (w.1 61 4).toInt = 2) → yG w 0 = 1 ∧ ∃ L, LvC L w
def CrI (w : MW) : Prop := BND w ∧ CrS w ∧ WO w ∧ RnI w
theorem cri_fr {l : Pl} {w w' : MW} (h : CrI w) (hF : FR l w w') (hB : BND w') (ho : off l ((61, some 4) :: lcw) = true) : CrI w' := by
  refine ⟨hB, h.2.1.fr hF (off_mono ho (by decide)), WO_fr hF (off_mono ho (by decide)) h.2.2.1, fun c => ?_⟩
  rw [(hF 61 4 (off_hit ho rfl)).1] at c
  have q := h.2.2.2 c
  obtain ⟨L, hL⟩ := q.2
  exact ⟨by unfold yG; rw [(hF 80 _ (off_hit ho rfl)).1]; exact q.1, L, lv_fr hL hF (off_mono ho (by decide))⟩
theorem cri_wo {l : Pl} {w w' : MW} (h : CrI w) (hF : FR l w w') (hB : BND w') (hW : WO w') (ho : off l ((61, some 4) :: (80, none) :: (81, none) :: lcs) = true) : CrI w' := by
  refine ⟨hB, h.2.1.fr hF (off_mono ho (by decide)), hW, fun c => ?_⟩
  rw [(hF 61 4 (off_hit ho rfl)).1] at c
  have q := h.2.2.2 c
  obtain ⟨L, hL⟩ := q.2
  exact ⟨by unfold yG; rw [(hF 80 _ (off_hit ho rfl)).1]; exact q.1, L, lv_fr hL hF (off_mono ho (by decide))⟩
/-- the state is set: a run that lives lived before -/
theorem cri_st {w : MW} {v : Int32} (h : CrI w) (v0 : 0 ≤ v.toInt) (v4 : v.toInt ≤ 4) (hl : v.toInt = 0 ∨ v.toInt = 2 → (w.1 61 4).toInt = 0 ∨ (w.1 61 4).toInt = 2) : CrI (sI w 61 4 v) := by
  have F : FR [(61, some 4)] w (sI w 61 4 v) := FR.I (FR.refl _ w) rfl
  refine ⟨wbd_61_4 h.1 v0 v4, h.2.1.fr F rfl, WO_fr F rfl h.2.2.1, fun c => ?_⟩
  rw [sI_same] at c
  have q := h.2.2.2 (hl c)
  obtain ⟨L, hL⟩ := q.2
  exact ⟨q.1, L, lv_fr hL F rfl⟩
theorem c_answer {w : MW} {v : Int64} {Q : Int32 → MW → Prop} (h : CrI w) (hQ : ∀ (r : Int32) (w' : MW), (r.toInt = 0 ∨ r.toInt = 1) → CrI w' → FR l_Ru_giveAnswer w w' → Q r w') : p_Bh_answer w v Q := by
  have F1 : FR l_Ru_giveAnswer w (sI w 61 15 0) := FR.I (FR.refl _ w) rfl
  have h1 : CrI (sI w 61 15 0) := cri_fr h F1 (wbd_61_15 h.1) rfl
  have e4 : (sI w 61 15 0).1 61 4 = w.1 61 4 := rfl
  refine Eq.mpr (p_Bh_answer.eq_1 _ _ _) (Eq.mpr (p_Ru_giveAnswer.eq_1 _ _ _) ⟨fun _ => ?_, fun c => ?_⟩)
  · exact Eq.mpr (q_Ru_giveAnswer_23.eq_1 _ _ _ _) ⟨fun c => absurd c (by decide), fun _ => hQ 0 _ (Or.inl i_0) h1 F1⟩
  · generalize (sI w 61 15 0) = w1 at *
    have q := h1.2.2.2 (by rw [e4]; omega)
    obtain ⟨L, hL⟩ := q.2
    have hx : CrX L w1 := ⟨h1.1, h1.2.1, h1.2.2.1, hL⟩
    refine (sk_all 400) w1 L 0 1 0 _ hx hL.1 (by decide) (by decide) (by decide) (fun r w2 hB hF hr => ?_)
    have F2 : FR l_Ru_giveAnswer w w2 := F1.tr hF rfl
    have h2 : CrI w2 := cri_fr h1 hF hB rfl
    refine Eq.mpr (q_Ru_giveAnswer_23.eq_1 _ _ _ _) ⟨fun c => ?_, fun _ => hQ 0 w2 (Or.inl i_0) h2 F2⟩
    have hr := hr.resolve_left (by omega)
    have x2 : CrX L w2 := crx_fr hx hF hB rfl
    have rb := hL.2.1 _ hr.1
    have p5 := h1.2.1.1.1.2
    have g : 0 ≤ r.toInt ∧ r.toInt < 501 := ⟨by omega, by omega⟩
    have PS := x2.2.1.1.2.2.2 r.toInt hr.2.1 (by rw [(SLy.fr hF rfl).1]; exact rb.2)
    have k22 : kn w2 r.toInt = 22 := by
      rw [(SLy.fr hF rfl).2.2.2.2.1]
      exact hr.2.2.resolve_left (by decide)
    have ek : (w2.1 63 ((w2.1 77 r.toInt.toNat).toInt.toNat)).toInt = kn w2 r.toInt := rfl
    have pn := PS.1
    have en : (w2.1 77 r.toInt.toNat).toInt = pN w2 r.toInt := rfl
    have pa := h2.2.1.2.1 (w2.1 77 r.toInt.toNat) pn.1 pn.2 (by omega)
    have r3 := h2.2.1.2.2.2.2.2.2.2.2.1
    have b62 := bd_62_1 h2.1
    have ar : 0 ≤ (w2.1 64 (w2.1 77 r.toInt.toNat).toInt.toNat).toInt ∧ (w2.1 64 (w2.1 77 r.toInt.toNat).toInt.toNat).toInt < 40 := ⟨pa.1, by omega⟩
    have F3 : ∀ (j j2 : Nat) (u u2 : Int64), FR l_Ru_giveAnswer w2 (sJ (sJ w2 82 j u) 74 j2 u2) := fun j j2 u u2 => FR.J (FR.J (FR.refl _ w2) rfl) rfl
    refine ⟨g, g, Eq.mpr (p_Ru_setValue.eq_1 _ _ _ _) ⟨r3, r3, ⟨by omega, by omega⟩, ar, hQ 1 _ (Or.inr i_1) (cri_fr (l := [(82, none), (74, none)]) h2 (FR.J (FR.J (FR.refl _ w2) rfl) rfl) (bnd_J (bnd_J h2.1)) rfl) (F2.tr (F3 _ _ _ _) rfl)⟩⟩
theorem c_still {w : MW} {a : Int32} {Q : Int32 → MW → Prop} (h : CrI w) (hQ : ∀ (r : Int32) (w' : MW), CrI w' → FR l_Ru_seek w w' → Q r w') : p_Bh_still w a Q := by
  have F1 : FR l_Ru_seek w (sI w 61 15 a) := FR.I (FR.refl _ w) rfl
  have h1 : CrI (sI w 61 15 a) := cri_fr h F1 (wbd_61_15 h.1) rfl
  refine Eq.mpr (p_Bh_still.eq_1 _ _ _) (Eq.mpr (p_Ru_standingNode.eq_1 _ _ _) ?_)
  generalize (sI w 61 15 a) = w1 at *
  have nil : Q (-1) w1 := hQ _ w1 h1 F1
  have go : ((w1.1 61 4).toInt = 0 ∨ (w1.1 61 4).toInt = 2) → p_Ru_seek w1 0 0 0 (fun r4 w4 => ((0 ≤ r4.toInt → ((0 ≤ r4.toInt ∧ r4.toInt < 501) ∧ (Q (w4.1 77 r4.toInt.toNat) w4))) ∧ (¬ (0 ≤ r4.toInt) → (Q (-1) w4)))) := fun c => by
    have q := h1.2.2.2 c
    obtain ⟨L, hL⟩ := q.2
    have hx : CrX L w1 := ⟨h1.1, h1.2.1, h1.2.2.1, hL⟩
    refine (sk_all 400) w1 L 0 0 0 _ hx hL.1 (by decide) (by decide) (by decide) (fun r w2 hB hF hr => ?_)
    have h2 : CrI w2 := cri_fr h1 hF hB rfl
    have p5 := h1.2.1.1.1.2
    refine ⟨fun c => ⟨?_, hQ _ w2 h2 (F1.tr hF rfl)⟩, fun _ => hQ _ w2 h2 (F1.tr hF rfl)⟩
    have hr := hr.resolve_left (by omega)
    have rb := hL.2.1 _ hr.1
    omega
  refine Eq.mpr (p_Ru_isAlive.eq_1 _ _) ⟨fun c => ⟨fun _ => nil, fun _ => ⟨fun _ => nil, fun _ => go (by omega)⟩⟩, fun c => ⟨fun _ => ⟨fun _ => nil, fun z => absurd i_0 z⟩, fun c2 => ⟨fun _ => nil, fun _ => ⟨fun _ => nil, fun _ => go (by omega)⟩⟩⟩⟩
theorem c_begin {w : MW} {Q : MW → Prop} (hI : BND w) (hS : CrS w) (hW : WO w) (hQ : ∀ w', CrI w' → FR l_Bh_start w w' → Q w') : p_Ru_begin w Q := by
  have F0 : FR l_Bh_start w (sI w 61 4 0) := FR.I (FR.refl _ w) rfl
  have B0 : BND (sI w 61 4 0) := wbd_61_4 hI (by decide) (by decide)
  have S0 : CrS (sI w 61 4 0) := hS.fr (l := [(61, some 4)]) (FR.I (FR.refl _ w) rfl) rfl
  have W0 : WO (sI w 61 4 0) := WO_fr (l := [(61, some 4)]) (FR.I (FR.refl _ w) rfl) rfl hW
  refine Eq.mpr (p_Ru_begin.eq_1 _ _) ?_
  generalize (sI w 61 4 0) = v at *
  have z := S0.1
  have e0 : (0 : Int32).toInt.toNat = 0 := by decide
  have f := z.2.1
  have kf := z.2.2.1.2
  have p5 := z.1.2
  have p1 := z.1.1
  have ef : (v.1 78 0).toInt = pFi v 0 := rfl
  have g : 0 ≤ (0 : Int32).toInt ∧ (0 : Int32).toInt < 501 := by decide
  refine Eq.mpr (p_Ru_enter.eq_1 _ _ _) ⟨g, g, g, g, ?_⟩
  rw [e0]
  have gen : ∀ (w' : MW) (L : Int → Prop), FR [(80, none), (81, none)] v w' → BND w' → LvC L w' → yG w' 0 = 1 → Q w' := fun w' L hF hB hL h1 => hQ w' ⟨hB, S0.fr hF rfl, WO_fr hF rfl W0, fun _ => ⟨h1, L, hL⟩⟩ (F0.tr hF rfl)
  have g1 : ∀ (u : Int32) j, 0 ≤ j → yG (sI (sI v 80 0 1) 81 0 u) j = if j = 0 then (1 : Int32).toInt else yG v j := fun u j j0 => yG_set (w := v) (a := 0) (by omega) j0
  have c1 : ∀ (u : Int32) j, 0 ≤ j → yC (sI (sI v 80 0 1) 81 0 u) j = if j = 0 then u.toInt else yC v j := fun u j j0 => yC_set (w := sI v 80 0 1) (a := 0) (by omega) j0
  refine ⟨fun c => ?_, fun c => ⟨g, by omega, ?_⟩⟩
  · have F : FR [(80, none), (81, none)] v (sI (sI v 80 0 1) 81 0 (v.1 78 0)) := FR.I (FR.I (FR.refl _ v) rfl) rfl
    refine gen _ (fun i => i = 0) F (wbd_81 (wbd_80 B0 _ (by decide) (by decide)) _ (by omega) (by omega)) ⟨rfl, fun i q => ?_, fun i q _ => ?_, fun i q _ i1 => by omega, fun i q _ i1 => by omega⟩ ?_
    · have e : pts (sI (sI v 80 0 1) 81 0 (v.1 78 0)) = pts v := rfl
      rw [e]
      omega
    · left
      rw [c1 _ i (by omega), if_pos q]
      omega
    · rw [g1 _ 0 (by omega), if_pos rfl]
      exact i_1
  · have fb : 0 < pFi v 0 ∧ pFi v 0 < pts v := by omega
    have F : FR [(80, none), (81, none)] v (sI (sI (sI v 80 0 1) 81 0 (v.1 78 0)) 80 (v.1 78 0).toInt.toNat 0) := FR.I (FR.I (FR.I (FR.refl _ v) rfl) rfl) rfl
    have g2 : ∀ j, 0 ≤ j → yG (sI (sI (sI v 80 0 1) 81 0 (v.1 78 0)) 80 (v.1 78 0).toInt.toNat 0) j = if j = pFi v 0 then (0 : Int32).toInt else if j = 0 then (1 : Int32).toInt else yG v j := fun j j0 => by
      rw [← g1 (v.1 78 0) j j0]
      exact yG_set (a := pFi v 0) (by omega) j0
    have c2 : ∀ j, 0 ≤ j → yC (sI (sI (sI v 80 0 1) 81 0 (v.1 78 0)) 80 (v.1 78 0).toInt.toNat 0) j = if j = 0 then pFi v 0 else yC v j := fun j j0 => c1 (v.1 78 0) j j0
    have e : pts (sI (sI (sI v 80 0 1) 81 0 (v.1 78 0)) 80 (v.1 78 0).toInt.toNat 0) = pts v := rfl
    have ek : ∀ i, kn (sI (sI (sI v 80 0 1) 81 0 (v.1 78 0)) 80 (v.1 78 0).toInt.toNat 0) i = kn v i := fun i => rfl
    have hB2 : BND (sI (sI (sI v 80 0 1) 81 0 (v.1 78 0)) 80 (v.1 78 0).toInt.toNat 0) := wbd_80 (wbd_81 (wbd_80 B0 _ (by decide) (by decide)) _ (by omega) (by omega)) _ (by decide) (by decide)
    refine gen _ (fun i => i = 0 ∨ i = pFi v 0) F hB2 ⟨Or.inl rfl, fun i q => ?_, fun i q gi => ?_, fun i q gi i1 => ?_, fun i q gi i1 => ?_⟩ ?_
    · rw [e]
      omega
    · have i0 : i = 0 := by
        cases q with
        | inl q => exact q
        | inr q =>
          rw [g2 i (by omega), if_pos q] at gi
          exact absurd i_0 gi
      right
      rw [c2 i (by omega), if_pos i0]
      refine ⟨by omega, Or.inr rfl, fun _ => ?_, fun q1 => by omega⟩
      rw [ek]
      exact kf (by omega)
    · rw [g2 i (by omega), if_pos (by omega)] at gi
      exact absurd i_0 gi
    · rw [g2 i (by omega), if_pos (by omega)] at gi
      exact absurd i_0 gi
    · rw [g2 0 (by omega), if_neg (by omega), if_pos rfl]
      exact i_1
theorem ru_alive {w : MW} {Q : Int32 → MW → Prop} (h1 : ((w.1 61 4).toInt = 0 ∨ (w.1 61 4).toInt = 2) → Q 1 w) (h0 : ¬ ((w.1 61 4).toInt = 0 ∨ (w.1 61 4).toInt = 2) → Q 0 w) : p_Ru_isAlive w Q := Eq.mpr (p_Ru_isAlive.eq_1 _ _) ⟨fun c => h1 (Or.inl c), fun c => ⟨fun c2 => h0 (by omega), fun c2 => h1 (by omega)⟩⟩
theorem c_start {w : MW} {Q : Int32 → MW → Prop} (h : CrI w) (hQ : ∀ (r : Int32) (w' : MW), CrI w' → FR l_Bh_start w w' → Q r w') : p_Bh_start w Q := by
  have r3 := h.2.1.2.2.2.2.2.2.2.2.1
  have go : ∀ w3, BND w3 → CrS w3 → WO w3 → FR l_Bh_start w w3 → ((w3.2.2 61 3 = some 62) ∧ (p_Pr_clearValues (sI w3 3 0 0)  (fun w6 => (p_Ru_begin w6  (fun w7 => (Q 1 w7)))))) := fun w3 hB hS hW hF => by
    refine ⟨hS.2.2.2.2.2.2.2.2.1, ?_⟩
    have F4 : FR l_Bh_start w3 (sI w3 3 0 0) := FR.I (FR.refl _ w3) rfl
    have B4 : BND (sI w3 3 0 0) := wbd_3_0 hB (by decide) (by decide)
    have S4 : CrS (sI w3 3 0 0) := hS.fr (l := [(3, some 0)]) (FR.I (FR.refl _ w3) rfl) rfl
    have W4 : WO (sI w3 3 0 0) := WO_fr (l := [(3, some 0)]) (FR.I (FR.refl _ w3) rfl) rfl hW
    generalize (sI w3 3 0 0) = w4 at *
    exact h_Pr_clearValues B4 (fun w6 hB6 hF6 => c_begin hB6 (S4.fr hF6 rfl) (WO_fr hF6 rfl W4) (fun w7 h7 hF7 => hQ _ w7 h7 (((hF.tr F4 rfl).tr hF6 rfl).tr hF7 rfl)))
  refine Eq.mpr (p_Bh_start.eq_1 _ _) ⟨r3, fun _ => ru_alive (fun _ => ⟨fun z => absurd z (by decide), fun _ => ?_⟩) (fun _ => ⟨fun _ => go w h.1 h.2.1 h.2.2.1 (FR.refl _ w), fun z => absurd i_0 z⟩), fun _ => hQ 0 w h (FR.refl _ w)⟩
  exact h_Wa_closeAll h.1 h.2.1.2.2.2.2.2.2.2.1 h.2.2.1 h.2.1.2.2.2.2.2.2.2.2.2.1 (fun w8 hB8 hF8 hW8 => go w8 hB8 (h.2.1.fr hF8 rfl) hW8 ((FR.refl _ w).tr hF8 rfl))
theorem c_hold {w : MW} {a : Int32} {Q : Int32 → MW → Prop} (h : CrI w) (hQ : ∀ (r : Int32) (w' : MW), CrI w' → FR l_Bh_hold w w' → Q r w') : p_Bh_hold w a Q := by
  have F4 : ∀ v : Int32, FR l_Bh_hold w (sI w 61 4 v) := fun v => FR.I (FR.refl _ w) rfl
  have go : ∀ y : Int32, (y.toInt = 0 ∨ y.toInt = 2) → q_Bh_hold_16 a y (w.1 61 4) w Q := fun y hy => by
    refine Eq.mpr (q_Bh_hold_16.eq_1 _ _ _ _ _) ⟨fun c => ⟨fun _ => hQ 1 _ (cri_st h (by decide) (by decide) (fun _ => by omega)) (F4 0), fun _ => ?_⟩, fun _ => hQ 0 w h (FR.refl _ w)⟩
    have h2 := cri_st (v := 2) h (by decide) (by decide) (fun _ => by omega)
    exact h_Wa_closeAll h2.1 h2.2.1.2.2.2.2.2.2.2.1 h2.2.2.1 h2.2.1.2.2.2.2.2.2.2.2.2.1 (fun w8 hB8 hF8 hW8 => hQ 1 w8 (cri_wo h2 hF8 hB8 hW8 rfl) ((F4 2).tr hF8 rfl))
  exact Eq.mpr (p_Bh_hold.eq_1 _ _ _) ⟨fun _ => go 2 (Or.inr (by decide)), fun _ => go 0 (Or.inl (by decide))⟩
theorem c_stop {w : MW} {Q : Int32 → MW → Prop} (h : CrI w) (hQ : ∀ (r : Int32) (w' : MW), CrI w' → FR l_Bh_stop w w' → Q r w') : p_Bh_stop w Q := by
  have F4 : ∀ v : Int32, FR l_Bh_stop w (sI w 61 4 v) := fun v => FR.I (FR.refl _ w) rfl
  refine Eq.mpr (p_Bh_stop.eq_1 _ _) (ru_alive (fun _ => ⟨fun _ => ?_, fun z => absurd (by decide) z⟩) (fun _ => ⟨fun z => absurd i_0 z, fun _ => hQ 0 w h (FR.refl _ w)⟩))
  have h2 := cri_st (v := 3) h (by decide) (by decide) (fun z => absurd z (by decide))
  exact h_Wa_closeAll h2.1 h2.2.1.2.2.2.2.2.2.2.1 h2.2.2.1 h2.2.1.2.2.2.2.2.2.2.2.2.1 (fun w8 hB8 hF8 hW8 => hQ 1 w8 (cri_wo h2 hF8 hB8 hW8 rfl) ((F4 3).tr hF8 rfl))
theorem c_tick15 {a : Int32} {w0 : MW} {E : MW → Prop} {Q : Int32 → MW → Prop} (a1 : a.toInt ≤ 600) (hE : ∀ w', CrI w' → FR l_Bh_tick w0 w' → E w') (n : Nat) : ∀ (i : Int32) (w : MW), CrI w → FR l_Bh_tick w0 w → 0 ≤ i.toInt → i.toInt ≤ 600 → (601 - i.toInt).toNat < n → q_Bh_tick_15 a E Q n i w := by
  induction n with
  | zero => intros; omega
  | succ n ih =>
    intro i w h hF i0 i1 hm
    rw [q_Bh_tick_15.eq_2]
    refine ⟨fun _ => hE w h hF, fun ci => ?_⟩
    have si := ti_add2 (Eq.refl i.toInt) i_1 (by omega) (by omega)
    have S := h.2.1.2.2.2.2.2.2.2.2
    have nxt : ∀ w', CrI w' → FR l_Bh_tick w0 w' → p_Wa_move w' (fun w8 => (q_Bh_tick_15 a E Q n (i + (1 : Int32)) (sI w8 7 1 ((w8.1 7 1) + (1 : Int32))))) := fun w' h' hF' => h_Wa_move h'.1 h'.2.1.2.2.2.2.2.2.2.2.2.1 (fun w8 hB8 hF8 => by
      have h8 := cri_fr h' hF8 hB8 rfl
      have F9 : FR [(7, some 1)] w8 (sI w8 7 1 ((w8.1 7 1) + (1 : Int32))) := FR.I (FR.refl _ w8) rfl
      exact ih _ _ (cri_fr h8 F9 (wbd_7_1 h8.1) rfl) ((hF'.tr hF8 rfl).tr F9 rfl) (by omega) (by omega) (by omega))
    refine h_Bh_senseAll h.1 S.2.2 S.1 S.2.1 (fun w4 hB4 hF4 => ?_)
    have h4 := cri_fr h hF4 hB4 rfl
    refine ⟨h4.2.1.2.2.2.2.2.2.2.2.2.2, h_Ro_countSecond hB4 (fun w6 hB6 hF6 => ?_)⟩
    have h6 := cri_fr h4 hF6 hB6 rfl
    have F6 : FR l_Bh_tick w0 w6 := (hF.tr hF4 rfl).tr hF6 rfl
    refine ⟨fun _ => nxt w6 h6 F6, fun c => ?_⟩
    have q := h6.2.2.2 (by omega)
    obtain ⟨L, hL⟩ := q.2
    refine cr_walk (L := L) ⟨h6.1, h6.2.1, h6.2.2.1, hL⟩ (by omega) (fun w9 L9 t9 e9 => ?_)
    have h9 : CrI w9 := ⟨t9.1.1, t9.1.2.1, t9.1.2.2.1, fun _ => ⟨e9.trans q.1, L9, t9.1.2.2.2⟩⟩
    have F9 : FR l_Bh_tick w0 w9 := F6.tr t9.2.1 rfl
    have c73 : q_Bh_tick_73 a i w9 (fun (x15_2 : Int32) (w : MW) => q_Bh_tick_15 a E Q n x15_2 w) E Q := Eq.mpr (q_Bh_tick_73.eq_1 _ _ _ _ _ _) (h_Wa_closeAll h9.1 h9.2.1.2.2.2.2.2.2.2.1 h9.2.2.1 h9.2.1.2.2.2.2.2.2.2.2.2.1 (fun w11 hB11 hF11 hW11 => nxt w11 (cri_wo h9 hF11 hB11 hW11 rfl) (F9.tr hF11 rfl)))
    exact ⟨fun _ => c73, fun _ => ⟨fun _ => nxt w9 h9 F9, fun _ => c73⟩⟩
theorem c_tick {w : MW} {a : Int32} {Q : Int32 → MW → Prop} (h : CrI w) (hQ : ∀ (r : Int32) (w' : MW), CrI w' → FR l_Bh_tick w w' → Q r w') : p_Bh_tick w a Q :=
  Eq.mpr (p_Bh_tick.eq_1 _ _ _) ⟨fun _ => hQ _ w h (FR.refl _ w), fun _ => ⟨fun c => c_tick15 c (fun w' h' F' => hQ _ w' h' F') FU 0 w h (FR.refl _ w) (by decide) (by decide) (by decide), fun _ => hQ _ w h (FR.refl _ w)⟩⟩
