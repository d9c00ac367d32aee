/-! the class's run: limits, walk -/
theorem lim_1 {a : Int} {s : Int32} {L0 L : Int → Prop} {w0 w : MW} {Q : MW → Prop} (h0 : RLz w0) (h : CrT a L0 w0 w L) (as : a ≤ s.toInt + 1) (s1 : 1 ≤ s.toInt) (s2 : s.toInt < pts w0) (hL : L s.toInt) (k : kn w0 s.toInt = 20) (hQ : ∀ (w' : MW) (L' : Int → Prop), CrT a L0 w0 w' L' → yG w' s.toInt = yG w s.toInt → (∀ i, L i → L' i) → Q w') : p_Ru_lookAtLimit w s Q := by
  have p := crt_pq h s1 s2
  have b62 := bd_62_1 h.1.1
  have g : 0 ≤ s.toInt ∧ s.toInt < 501 := ⟨by omega, p.2.1⟩
  have pn := p.1.1
  have en : (w.1 77 s.toInt.toNat).toInt = pN w s.toInt := rfl
  have g2 : 0 ≤ (w.1 77 s.toInt.toNat).toInt ∧ (w.1 77 s.toInt.toNat).toInt < 301 := by omega
  have b65 := bd_65 h.1.1 ((w.1 77 s.toInt.toNat).toInt.toNat)
  have b66 := bd_66 h.1.1 ((w.1 77 s.toInt.toNat).toInt.toNat)
  have r3 := h.1.2.1.2.2.2.2.2.2.2.2.1
  have t6 := (h.1.2.1.2.2.1 (w.1 77 s.toInt.toNat) g2.1 (by omega)).1
  refine Eq.mpr (p_Ru_lookAtLimit.eq_1 _ _ _) ⟨r3, g, g2, r3, g, g2, cr_reckon h b65.1 b65.2 b66.1 t6 (fun r7 w7 h7 g7 => ru_over (fun r8 _ => ⟨fun _ => hQ w7 L h7 (g7 _) (fun _ q => q), fun _ => ⟨fun _ => hQ w7 L h7 (g7 _) (fun _ q => q), fun _ => ⟨g, al_add h7.1.1 (fun w12 hB12 hF12 => ?_)⟩⟩⟩))⟩
  have h12 := crt_fr h7 hF12 hB12 rfl rfl
  have y12 : yG w12 s.toInt = yG w s.toInt := by
    rw [← g7]
    unfold yG
    rw [(hF12 80 _ rfl).1]
  have sl := crt_sl h12
  have PS := h0.2.2.2 _ s1 s2
  have f1 := PS.2.2.2.1 (by omega)
  have f2 := PS.2.1
  have kf := (PS.2.2.2.2.1 (by omega)).2 (by omega)
  have PF := h0.2.2.2 _ f1 (by omega)
  have nf := PF.2.2.1
  have p5 := h0.1.2
  have ef : (w12.1 78 s.toInt.toNat).toInt = pFi w0 s.toInt := sl.2.2.1 _
  refine ⟨g, by rw [ef]; omega, ?_⟩
  rw [ef]
  have ex : (w12.1 79 (pFi w0 s.toInt).toNat).toInt = pNx w0 (pFi w0 s.toInt) := sl.2.2.2.1 _
  refine lv_choose h12.1.1 h12.1.2.2.2 hL (by rw [ex, sl.1]; omega) (fun q => ⟨fun q2 => ?_, fun _ _ => ?_⟩) h12.1.2.1.1.1.2 (fun w15 L15 hB hF hs hv _ hgg _ => hQ w15 L15 (crt_lv2 (s := s.toInt + 1) h12 as hF hB hs hv (fun j j0 j1 => hgg j j0 (by omega))) (by rw [hgg _ (by omega) (Int.le_refl _)]; exact y12) hs)
  · rw [sl.2.2.2.2.1] at q2
    omega
  · rw [ex] at q ⊢
    rw [sl.2.2.2.2.1]
    exact (PF.2.2.2.2.2 q).2 kf
def LmP (n : Nat) : Prop := ∀ (w : MW) (L : Int → Prop) (a b : Int32) (Q : MW → Prop), CrX L w → L a.toInt → 0 ≤ b.toInt → b.toInt ≤ 100 → (101 - b.toInt).toNat < n → (∀ (w' : MW) (L' : Int → Prop), CrT (a.toInt + 1) L w w' L' → Q w') → pn_Ru_lookAtLimits n w a b Q
theorem lim_142 {n0 : Nat} (hg : LmP n0) {b : Int32} {a : Int} {L0 : Int → Prop} {w0 : MW} {E : MW → Prop} {Q : MW → Prop} (hz : RLz w0) (a0 : 0 ≤ a) (b0 : 0 ≤ b.toInt) (b1 : b.toInt ≤ 99) (hm0 : (100 - b.toInt).toNat < n0) (hE : ∀ (w' : MW) (L' : Int → Prop), CrT a L0 w0 w' L' → E w') (n : Nat) : ∀ (x i : Int32) (w : MW) (L : Int → Prop), CrT a L0 w0 w L → (x.toInt = -1 ∨ (a ≤ x.toInt ∧ 1 ≤ x.toInt ∧ x.toInt < pts w0)) → (∀ m, nxI w0 m x.toInt = -1 ∨ L0 (nxI w0 m x.toInt)) → 0 ≤ i.toInt → i.toInt ≤ 501 → (501 - i.toInt).toNat < n → q_Ru_lookAtLimits_142 (pn_Ru_lookAtLimits n0) b E Q n x i w := by
  induction n with
  | zero => intros; omega
  | succ n ih =>
    intro x i w L h hx hn i0 i1 hm
    have p5 := hz.1.2
    rw [q_Ru_lookAtLimits_142.eq_2]
    refine ⟨fun _ => hE w L h, fun ci => ⟨fun _ => hE w L h, fun cx => ?_⟩⟩
    have hx := hx.resolve_left (by omega)
    have PX := hz.2.2.2 x.toInt (by omega) hx.2.2
    have nx := PX.2.2.1
    have Lx : L0 x.toInt := by
      have q := hn 0
      have e : nxI w0 0 x.toInt = x.toInt := rfl
      rw [e] at q
      exact q.resolve_left (by omega)
    have si := ti_add2 (Eq.refl i.toInt) i_1 (by omega) (by omega)
    have sb := ti_add2 (Eq.refl b.toInt) i_1 (by omega) (by omega)
    refine hg w L x _ _ h.1 (h.2.2.1 _ Lx) (by omega) (by omega) (by omega) (fun w' L' t => ⟨⟨by omega, by omega⟩, ?_⟩)
    have h' := crt_tr h (by omega) t
    have e : (w'.1 79 x.toInt.toNat).toInt = pNx w0 x.toInt := (crt_sl h').2.2.2.1 x.toInt
    refine ih _ _ w' L' h' (by rw [e]; omega) (fun m => ?_) (by omega) (by omega) (by omega)
    rw [e]
    have q := hn (m + 1)
    have e2 : nxI w0 (m + 1) x.toInt = nxI w0 m (pNx w0 x.toInt) := by
      show nxI w0 m (if x.toInt < 0 then -1 else pNx w0 x.toInt) = _
      rw [if_neg cx]
    rw [e2] at q
    exact q
theorem nxI_neg (w : MW) (m : Nat) : nxI w m (-1) = -1 := by
  induction m with
  | zero => rfl
  | succ m ih =>
    show nxI w m (if (-1 : Int) < 0 then -1 else pNx w (-1)) = -1
    rw [if_pos (by omega)]
    exact ih
theorem lim_120 {n0 : Nat} (hg : LmP n0) {s b k : Int32} {a : Int} {L0 L : Int → Prop} {w0 w : MW} {Q : MW → Prop} (hz : RLz w0) (h : CrT a L0 w0 w L) (a0 : 0 ≤ a) (as : a ≤ s.toInt + 1) (s1 : 1 ≤ s.toInt) (s2 : s.toInt < pts w0) (hk : k.toInt = kn w0 s.toInt) (hn : kn w0 s.toInt = 16 → ∀ m, nxI w0 m (pFi w0 s.toInt) = -1 ∨ L0 (nxI w0 m (pFi w0 s.toInt))) (b0 : 0 ≤ b.toInt) (b1 : b.toInt ≤ 99) (hm0 : (100 - b.toInt).toNat < n0) (hQ : ∀ (w' : MW) (L' : Int → Prop), CrT a L0 w0 w' L' → Q w') : q_Ru_lookAtLimits_120 (pn_Ru_lookAtLimits n0) b s k w Q := by
  have p5 := hz.1.2
  have PS := hz.2.2.2 _ s1 s2
  have f := PS.2.1
  have ef : (w.1 78 s.toInt.toNat).toInt = pFi w0 s.toInt := (crt_sl h).2.2.1 _
  refine Eq.mpr (q_Ru_lookAtLimits_120.eq_1 _ _ _ _ _ _) ⟨fun _ => lim_142 hg hz a0 b0 b1 hm0 hQ FU (-1) 0 w L h (Or.inl i_m1) (fun m => ?_) (by decide) (by decide) (by decide), fun c => ⟨⟨by omega, by omega⟩, lim_142 hg hz a0 b0 b1 hm0 hQ FU _ 0 w L h (by rw [ef]; omega) (fun m => ?_) (by decide) (by decide) (by decide)⟩⟩
  · rw [i_m1]
    exact Or.inl (nxI_neg w0 m)
  · rw [ef]
    exact hn (by omega) m
theorem lim_91 {n0 : Nat} (hg : LmP n0) {s b k : Int32} {a : Int} {L0 L : Int → Prop} {w0 w : MW} {Q : MW → Prop} (hz : RLz w0) (h : CrT a L0 w0 w L) (a0 : 0 ≤ a) (as : a ≤ s.toInt + 1) (s1 : 1 ≤ s.toInt) (s2 : s.toInt < pts w0) (hL : L s.toInt) (hG : ¬ yG w s.toInt = 0) (hk : k.toInt = kn w0 s.toInt) (hn : kn w0 s.toInt = 16 → ∀ m, nxI w0 m (pFi w0 s.toInt) = -1 ∨ L0 (nxI w0 m (pFi w0 s.toInt))) (b0 : 0 ≤ b.toInt) (b1 : b.toInt ≤ 99) (hm0 : (100 - b.toInt).toNat < n0) (hQ : ∀ (w' : MW) (L' : Int → Prop), CrT a L0 w0 w' L' → Q w') : q_Ru_lookAtLimits_91 (pn_Ru_lookAtLimits n0) b s k w Q := by
  have p5 := hz.1.2
  have g : 0 ≤ s.toInt ∧ s.toInt < 501 := ⟨by omega, by omega⟩
  have sb := ti_add2 (Eq.refl b.toInt) i_1 (by omega) (by omega)
  refine Eq.mpr (q_Ru_lookAtLimits_91.eq_1 _ _ _ _ _ _) ⟨fun _ => lim_120 hg hz h a0 as s1 s2 hk hn b0 b1 hm0 hQ, fun _ => ⟨g, fun _ => lim_120 hg hz h a0 as s1 s2 hk hn b0 b1 hm0 hQ, fun c => ⟨g, ?_⟩⟩⟩
  have lv := (h.1.2.2.2.2.2.1 _ hL hG).resolve_left (by unfold yC; omega)
  have es : yC w s.toInt = (w.1 81 s.toInt.toNat).toInt := rfl
  rw [es] at lv
  exact hg w L _ _ _ h.1 lv.2.1 (by omega) (by omega) (by omega) (fun w' L' t => lim_120 hg hz (crt_tr h (by omega) t) a0 as s1 s2 hk hn b0 b1 hm0 hQ)
theorem lim_20 {n0 : Nat} (hg : LmP n0) {s b : Int32} {a : Int} {L0 : Int → Prop} {w0 : MW} {Q : MW → Prop} (h0 : CrX L0 w0) (a0 : 0 ≤ a) (hs : s.toInt = -1 ∨ (a ≤ s.toInt ∧ 1 ≤ s.toInt ∧ L0 s.toInt)) (b0 : 0 ≤ b.toInt) (hm0 : (100 - b.toInt).toNat < n0) (hQ : ∀ (w' : MW) (L' : Int → Prop), CrT a L0 w0 w' L' → Q w') : q_Ru_lookAtLimits_20 (pn_Ru_lookAtLimits n0) b s w0 Q := by
  have z := h0.2.1.1
  have p5 := z.1.2
  have q0 := hQ w0 L0 (crt_0 h0)
  refine Eq.mpr (q_Ru_lookAtLimits_20.eq_1 _ _ _ _ _) (ru_over (fun r3 _ => ⟨fun _ => q0, fun _ => ⟨fun _ => q0, fun cs => ?_⟩⟩))
  have hs := hs.resolve_left (by omega)
  have sp := h0.2.2.2.2.1 _ hs.2.2
  have g : 0 ≤ s.toInt ∧ s.toInt < 501 := ⟨by omega, by omega⟩
  have PS := z.2.2.2 _ hs.2.1 sp.2
  have b62 := bd_62_1 h0.1
  have en : (w0.1 77 s.toInt.toNat).toInt = pN w0 s.toInt := rfl
  have ek : (w0.1 63 (w0.1 77 s.toInt.toNat).toInt.toNat).toInt = kn w0 s.toInt := rfl
  have pn := PS.1
  have h : CrT a L0 w0 w0 L0 := crt_0 h0
  refine ⟨g, fun _ => q0, fun hG => ⟨fun cb => ⟨h0.2.1.2.2.2.2.2.2.2.2.1, g, by rw [en]; omega, fun _ => ?_, fun c20 => ⟨g, g, fun _ => ?_, fun _ => ?_⟩⟩, fun _ => q0⟩⟩
  · exact lim_91 hg z h a0 (by omega) hs.2.1 sp.2 hs.2.2 hG ek (fun k => h0.2.2.2.2.2.2.1 _ hs.2.2 hG hs.2.1 k) b0 (by omega) hm0 hQ
  · exact lim_91 hg z h a0 (by omega) hs.2.1 sp.2 hs.2.2 hG ek (fun k => h0.2.2.2.2.2.2.1 _ hs.2.2 hG hs.2.1 k) b0 (by omega) hm0 hQ
  · have k20 : kn w0 s.toInt = 20 := by rw [← ek]; exact Classical.not_not.mp c20
    refine lim_1 z h (by omega) hs.2.1 sp.2 hs.2.2 k20 (fun w' L' t gg hss => ?_)
    exact lim_91 hg z t a0 (by omega) hs.2.1 sp.2 (hss _ hs.2.2) (by rw [gg]; exact hG) ek (fun k => by omega) b0 (by omega) hm0 hQ
theorem lim_all (n : Nat) : LmP n := by
  induction n with
  | zero => intro w L a b Q _ _ _ _ hm; omega
  | succ n ih =>
    intro w L a b Q h hL b0 b1 hm hQ
    rw [pe_Ru_lookAtLimits]
    have p5 := h.2.1.1.1.2
    have ab := h.2.2.2.2.1 _ hL
    have g : 0 ≤ a.toInt ∧ a.toInt < 501 := ⟨ab.1, by omega⟩
    by_cases c100 : b.toInt < 100
    · refine Eq.mpr (pb_Ru_lookAtLimits.eq_1 _ _ _ _ _) ⟨g, fun _ => lim_20 ih h (a := a.toInt + 1) (by omega) (Or.inl i_m1) b0 (by omega) hQ, fun c => ⟨g, lim_20 ih h (a := a.toInt + 1) (by omega) ?_ b0 (by omega) hQ⟩⟩
      have c1 : yG w a.toInt = 1 := Classical.not_not.mp c
      have lv := h.2.2.2.2.2.1 _ hL (by omega)
      have es : yC w a.toInt = (w.1 81 a.toInt.toNat).toInt := rfl
      rw [es] at lv
      cases lv with
      | inl q => exact Or.inl q
      | inr q => exact Or.inr ⟨by omega, by omega, q.2.1⟩
    · have q0 := hQ w L (crt_0 h)
      have e20 : ∀ s : Int32, (s.toInt = -1 ∨ (0 ≤ s.toInt ∧ s.toInt < 501)) → q_Ru_lookAtLimits_20 (pn_Ru_lookAtLimits n) b s w Q := fun s hs => Eq.mpr (q_Ru_lookAtLimits_20.eq_1 _ _ _ _ _) (ru_over (fun r3 _ => ⟨fun _ => q0, fun _ => ⟨fun _ => q0, fun cs => ⟨hs.resolve_left (by omega), fun _ => q0, fun _ => ⟨fun c => absurd c c100, fun _ => q0⟩⟩⟩⟩))
      refine Eq.mpr (pb_Ru_lookAtLimits.eq_1 _ _ _ _ _) ⟨g, fun _ => e20 (-1) (Or.inl i_m1), fun c => ⟨g, e20 _ ?_⟩⟩
      have c1 : yG w a.toInt = 1 := Classical.not_not.mp c
      have lv := h.2.2.2.2.2.1 _ hL (by omega)
      have es : yC w a.toInt = (w.1 81 a.toInt.toNat).toInt := rfl
      rw [es] at lv
      cases lv with
      | inl q => exact Or.inl q
      | inr q =>
        have := h.2.2.2.2.1 _ q.2.1
        exact Or.inr ⟨by omega, by omega⟩
/-- a second of the run -/
theorem cr_walk {w : MW} {L : Int → Prop} {Q : MW → Prop} (h : CrX L w) (h0 : ¬ yG w 0 = 0) (hQ : ∀ (w' : MW) (L' : Int → Prop), CrT 0 L w w' L' → yG w' 0 = yG w 0 → Q w') : p_Ru_walk w Q := by
  have hA : CrT 0 L w (sI (sI (sI (sJ w 61 17 ((w.2.1 61 17) + (1 : Int64))) 61 18 0) 61 19 0) 61 20 0) L := crt_fr (l := [(61, some 17), (61, some 18), (61, some 19), (61, some 20)]) (crt_0 h) (FR.I (FR.I (FR.I (FR.J (FR.refl _ w) rfl) rfl) rfl) rfl) (wbd_61_20 (wbd_61_19 (wbd_61_18 (bnd_J h.1) (by decide) (by decide)) (by decide) (by decide)) (by decide) (by decide)) rfl rfl
  have eA : yG (sI (sI (sI (sJ w 61 17 ((w.2.1 61 17) + (1 : Int64))) 61 18 0) 61 19 0) 61 20 0) 0 = yG w 0 := rfl
  refine Eq.mpr (p_Ru_walk.eq_1 _ _) ?_
  generalize (sI (sI (sI (sJ w 61 17 ((w.2.1 61 17) + (1 : Int64))) 61 18 0) 61 19 0) 61 20 0) = v at *
  refine (lim_all 400) v L 0 0 _ hA.1 hA.1.2.2.2.1 (by decide) (by decide) (by decide) (fun w1 L1 t1 => ?_)
  have e1 : yG w1 0 = yG w 0 := by
    rw [← eA]
    exact t1.2.2.2 0 (by omega) (by rw [i_0]; omega)
  have h1 := crt_tr hA (b := (0 : Int32).toInt + 1) (by rw [i_0]; omega) t1
  have fin : ∀ (r : Int32) (w' : MW) (L' : Int → Prop), CrT 0 L w w' L' → yG w' 0 = yG w 0 → q_Ru_walk_52 r w' Q := fun r w' L' t e => by
    have s4 : ∀ v : Int32, 0 ≤ v.toInt → v.toInt ≤ 4 → Q (sI w' 61 4 v) := fun v v0 v1 => hQ _ L' (crt_fr (l := [(61, some 4)]) t (FR.I (FR.refl _ w') rfl) (wbd_61_4 t.1.1 v0 v1) rfl rfl) e
    exact Eq.mpr (q_Ru_walk_52.eq_1 _ _ _) ⟨fun _ => ru_over (fun r5 _ => ⟨fun _ => hQ w' L' t e, fun _ => ⟨fun _ => hQ w' L' t e, fun _ => s4 2 (by decide) (by decide)⟩⟩), fun _ => s4 1 (by decide) (by decide)⟩
  refine ru_over (fun r2 _ => ⟨fun _ => fin 0 w1 L1 h1 e1, fun _ => cr_goOn h1.1 (by rw [e1]; exact h0) (fun r8 w8 L8 _ t8 e8 => ?_)⟩)
  have h8 := crt_tr h1 (Int.le_refl _) t8
  exact ⟨fun _ => fin 0 w8 L8 h8 (e8.trans e1), fun _ => fin 1 w8 L8 h8 (e8.trans e1)⟩
