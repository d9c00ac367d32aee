/-! the class's reader: statements -/
theorem wr_eq {l : Pl} {w w' : MW} (hF : FR l w w') (ho : off l [(87, some 9)] = true) : wr w' = wr w := by unfold wr; rw [(hF 87 9 (off_hit ho rfl)).1]
theorem nd_eq {l : Pl} {w w' : MW} (hF : FR l w w') (ho : off l [(108, some 1)] = true) : ndC w' = ndC w := by unfold ndC; rw [(hF 108 1 (off_hit ho rfl)).1]
theorem yX_set {w : MW} {f0 j : Int} {y : Int32} (f00 : 0 ≤ f0) (j0 : 0 ≤ j) : yX (sI w 114 f0.toNat y) j = if j = f0 then y.toInt else yX w j := by
  unfold yX
  by_cases c : j = f0
  · rw [if_pos c, c, sI_same]
  · rw [if_neg c, sI_ne _ _ _ _ _ (by omega)]
theorem nsx_link {w : MW} {f0 B : Int} {y : Int32} (f00 : 0 ≤ f0) : NSx f0 B w (sI w 114 f0.toNat y) := fun j j0 _ => ⟨⟨rfl, rfl, rfl, rfl, rfl, rfl, rfl⟩, fun c => by rw [yX_set f00 j0, if_neg c]⟩
theorem NSx.tr {f0 B : Int} {w w1 w2 : MW} (h : NSx f0 B w w1) (h2 : NSx f0 B w1 w2) : NSx f0 B w w2 := fun j a b => by
  have p := h j a b
  have q := h2 j a b
  exact ⟨⟨q.1.1.trans p.1.1, q.1.2.1.trans p.1.2.1, q.1.2.2.1.trans p.1.2.2.1, q.1.2.2.2.1.trans p.1.2.2.2.1, q.1.2.2.2.2.1.trans p.1.2.2.2.2.1, q.1.2.2.2.2.2.1.trans p.1.2.2.2.2.2.1, q.1.2.2.2.2.2.2.trans p.1.2.2.2.2.2.2⟩, fun c => (q.2 c).trans (p.2 c)⟩
theorem NSx.ns {f0 B : Int} {w w1 : MW} (h : NSx f0 B w w1) (hb : B ≤ f0) : NS B w w1 := fun j a b => by
  have p := h j a b
  exact ⟨p.1.1, p.1.2.1, p.1.2.2.1, p.1.2.2.2.1, p.1.2.2.2.2.1, p.2 (by omega), p.1.2.2.2.2.2.1, p.1.2.2.2.2.2.2⟩
/-- a root gets a next one -/
theorem tg_link {w wA w1 : MW} {f0 : Int} {y : Int32} (hw : RN w) (tA : TG w wA) (f00 : 0 ≤ f0) (hA : wr wA < 0 → ndC w ≤ f0 ∧ f0 + 1 = ndC wA) (t1 : TG wA w1) (y0 : -1 ≤ y.toInt) (y1 : y.toInt ≤ 300) : TG w (sI w1 114 f0.toNat y) := by
  have hF : FR [(114, none)] w1 (sI w1 114 f0.toNat y) := FR.I (FR.refl _ w1) rfl
  have hB : BND (sI w1 114 f0.toNat y) := wbd_114 t1.1.1.1 _ y0 y1
  have X : ∀ B, NSx f0 B w1 (sI w1 114 f0.toNat y) := fun B => nsx_link f00
  generalize (sI w1 114 f0.toNat y) = w' at *
  have hG : FR lcr w w' := (tA.2.1.1.tr t1.2.1.1 rfl).tr hF rfl
  have e9 := wr_eq hF rfl
  have e1 := nd_eq hF rfl
  have R : RW w' := t1.1.1.fr hB hF (by unfold PP; rw [(hF 87 4 rfl).1]; exact t1.1.1.2.2.2) rfl
  have n0 := nd_0 hw.1
  have C : wr w' < 0 → wr w < 0 ∧ ndC w ≤ ndC w' ∧ NS (ndC w) w w' := fun c => by
    rw [e9] at c
    have p := t1.2.2 c
    have q := tA.2.2 p.1
    have a := hA p.1
    exact ⟨q.1, by omega, (q.2.2.1.tr p.2.2.1 q.2.1).tr ((X (ndC w)).ns a.1) (Int.le_refl _)⟩
  refine ⟨hw.st R hG C, ⟨hG, (tA.2.1.2.tr t1.2.1.2).tr (WM.fr hF rfl)⟩, fun c => ?_⟩
  have z := C c
  refine ⟨z.1, z.2.1, z.2.2, fun m m0 m1 => ?_⟩
  rw [e9] at c
  rw [e1] at m1
  have p := t1.2.2 c
  have q := tA.2.2 p.1
  have a := hA p.1
  have NIw := hw.2.2 q.1
  have nb : ∀ (v : MW), SM w v → ∀ i, 0 ≤ i → i < nmC v → nkB v i = 10 → nbB v i < ndC w := fun v n i i0 i1 i2 => by
    rw [n.1] at i1
    rw [n.2.1] at i2
    rw [n.2.2]
    exact (NIw i i0 i1 i2).2.1
  have nA := SM.fr tA.2.1.1 rfl
  have n1 := SM.fr (tA.2.1.1.tr t1.2.1.1 rfl : FR lcr w w1) rfl
  by_cases d : m < ndC wA
  · exact (q.2.2.2 m m0 d).sx n0 m0 (NSx.tr ((p.2.2.1.wk (by omega : m + 1 ≤ ndC wA)).x f0) (X (m + 1))) (SM.fr (t1.2.1.1.tr hF rfl : FR lcr wA w') rfl) (Or.inr (by omega)) (fun i i0 i1 i2 => Int.lt_of_lt_of_le (nb wA nA i i0 i1 i2) a.1)
  · have T := (p.2.2.2 m (by omega) m1).sx (by omega) (by omega) (X (m + 1)) (SM.fr hF rfl) (Or.inl (by omega)) (fun i i0 i1 i2 => Int.lt_of_lt_of_le (nb w1 n1 i i0 i1 i2) a.1)
    exact T.lo q.2.1 (fun i i0 i1 i2 => nb w' (SM.fr hG rfl) i i0 i1 i2)
def lmk : Pl := [(88, none), (89, none), (111, none), (112, none), (113, none)]
/-- a node was made, and its own fields told -/
theorem mk_fin {lo hi : Int} {w w1 w2 w3 : MW} {r a b : Int32} (hw : RN w) (t : TG w w1) (ho : w1.1 87 8 = w.1 87 8) (hD : RdS w1 w2) (r0 : 0 ≤ r.toInt) (r1 : r.toInt ≤ 300) (hc : wr w2 < 0 → wr w1 < 0 ∧ r.toInt = ndC w1 ∧ ndC w2 = ndC w1 + 1 ∧ ndC w1 < 300 ∧ (∀ j, 0 ≤ j → j ≠ r.toInt → SN j w1 w2) ∧ NwN w2 r.toInt a.toInt b.toInt) (hF : FR lmk w2 w3) (hI : BND w3) (hs : ∀ j, 0 ≤ j → j ≠ r.toInt → SN j w2 w3) (k1 : lo ≤ a.toInt) (k2 : a.toInt ≤ hi) (hT : wr w1 < 0 → wr w2 < 0 → r.toInt = ndC w1 → NwN w2 r.toInt a.toInt b.toInt → NS r.toInt w1 w3 → yK w3 r.toInt = a.toInt → yA w3 r.toInt = b.toInt → SM w w3 → TCm w3 (ndC w) r.toInt) : StO lo hi w r w3 := by
  have e9 := wr_eq hF rfl
  have e1 := nd_eq hF rfl
  have n0 := nd_0 hw.1
  have R : RW w3 := hD.1.fr hI hF (by unfold PP; rw [(hF 87 4 rfl).1]; exact hD.1.2.2.2) rfl
  have F3 : FR lcr w1 w3 := hD.2.1.tr hF rfl
  have F : FR lcr w w3 := t.2.1.1.tr F3 rfl
  have S : wr w3 < 0 → NS r.toInt w1 w3 := fun c j j0 j1 => ((hc (by rw [← e9]; exact c)).2.2.2.2.1 j j0 (by omega)).tr (hs j j0 (by omega))
  have C : wr w3 < 0 → wr w < 0 ∧ ndC w ≤ ndC w3 ∧ NS (ndC w) w w3 := fun c => by
    have q := hc (by rw [← e9]; exact c)
    have p := t.2.2 q.1
    exact ⟨p.1, by omega, p.2.2.1.tr (S c) (by omega)⟩
  have kx : yK w3 r.toInt = yK w2 r.toInt := by unfold yK; rw [(hF 109 _ rfl).1]
  have ka : yA w3 r.toInt = yA w2 r.toInt := by unfold yA; rw [(hF 110 _ rfl).1]
  have kn : yX w3 r.toInt = yX w2 r.toInt := by unfold yX; rw [(hF 114 _ rfl).1]
  refine ⟨⟨hw.st R F C, ⟨F, (t.2.1.2.tr hD.2.2.1).tr (WM.fr hF rfl)⟩, fun c => ?_⟩, ((hF 87 8 rfl).1.trans hD.2.2.2).trans ho, ⟨r0, r1⟩, fun c => ?_⟩
  · have z := C c
    have q := hc (by rw [← e9]; exact c)
    have p := t.2.2 q.1
    refine ⟨z.1, z.2.1, z.2.2, fun m m0 m1 => ?_⟩
    by_cases d : m < ndC w1
    · exact (p.2.2.2 m m0 d).sn n0 m0 ((S c).wk (by omega)) (SM.fr F3 rfl)
    · have e : m = r.toInt := by omega
      rw [e]
      exact hT q.1 (by rw [← e9]; exact c) q.2.1 q.2.2.2.2.2 (S c) (kx.trans q.2.2.2.2.2.1) (ka.trans q.2.2.2.2.2.2.1) (SM.fr F rfl)
  · have q := hc (by rw [← e9]; exact c)
    have p := t.2.2 q.1
    have N := q.2.2.2.2.2
    refine ⟨by omega, by omega, by rw [kn]; exact N.2.2.2.2.2.1, by rw [kx, N.1]; exact k1, by rw [kx, N.1]; exact k2⟩
/-- a node without blocks, with its range -/
theorem k_range {w w1 : MW} {a b fr to : Int32} {Q : Int32 → MW → Prop} (hw : RN w) (t : TG w w1) (ho : w1.1 87 8 = w.1 87 8) (a0 : 11 ≤ a.toInt) (a1 : a.toInt ≤ 14) (hb : wr w1 < 0 → (a.toInt = 11 ∨ a.toInt = 14) → 0 ≤ b.toInt ∧ b.toInt ≤ 39) (f0 : 0 ≤ fr.toInt) (f1 : fr.toInt ≤ 301) (t0 : 0 ≤ to.toInt) (t1 : to.toInt ≤ 301) (ht : wr w1 < 0 → to.toInt ≤ ndC w1) (hQ : ∀ r w', StO 11 26 w r w' → Q r w') : p_Rd_makeNode w1 a b (fun r11 w11 => (p_Rd_giveRange w11 r11 fr to (fun r12 w12 => (Q r12 w12)))) := by
  refine k_node t.1.1 (fun r w2 hD r0 r1 hc => ?_)
  have g : 0 ≤ r.toInt ∧ r.toInt < 301 := ⟨r0, by omega⟩
  refine Eq.mpr (p_Rd_giveRange.eq_1 _ _ _ _ _) ⟨hD.1.2.2.1, g, hD.1.2.2.1, g, hQ _ _ (mk_fin hw t ho hD r0 r1 hc (FR.I (FR.I (FR.refl lmk w2) rfl) rfl) (wbd_112 (wbd_111 hD.1.1 _ f0 f1) _ t0 t1) (fun j j0 j1 => ?_) a0 (by omega) (fun c1 c2 e N S kK kA _ => ?_))⟩
  · have nj : j.toNat ≠ r.toInt.toNat := by omega
    exact ⟨rfl, rfl, congrArg Int32.toInt (sI_ne w2 111 j.toNat r.toInt.toNat fr nj), congrArg Int32.toInt (sI_ne w2 112 j.toNat r.toInt.toNat to nj), rfl, rfl, rfl, rfl⟩
  · have eT : yT (sI (sI w2 111 r.toInt.toNat fr) 112 r.toInt.toNat to) r.toInt = to.toInt := congrArg Int32.toInt (sI_same (sI w2 111 r.toInt.toNat fr) 112 r.toInt.toNat to)
    have eI : yI (sI (sI w2 111 r.toInt.toNat fr) 112 r.toInt.toNat to) r.toInt = -1 := N.2.2.2.2.1
    have eS : yS (sI (sI w2 111 r.toInt.toNat fr) 112 r.toInt.toNat to) r.toInt = 1 := N.2.2.2.2.2.2.1
    have eD : yD (sI (sI w2 111 r.toInt.toNat fr) 112 r.toInt.toNat to) r.toInt = 0 := N.2.2.2.2.2.2.2
    have ht' := ht c1
    refine ⟨fun q => by rw [kA]; exact hb c1 (by omega), ⟨by omega, fun _ => by left; omega⟩, ⟨by omega, by omega, by omega, by omega⟩, fun _ => Or.inl eI, fun q => by omega, fun _ _ => ⟨0, ?_⟩, fun q => by omega⟩
    rw [eI, eS]
    exact ⟨rfl, by omega⟩
theorem k_change {w : MW} {a : Int32} {Q : Int32 → MW → Prop} (hw : RN w) (a0 : a.toInt = 11 ∨ a.toInt = 14) (hQ : ∀ r w', StO 11 26 w r w' → Q r w') : p_Rd_readChange w a Q := by
  refine Eq.mpr (p_Rd_readChange.eq_1 _ _ _) (k_name hw.1 (fun nm w1 t1 nm0 nm1 hn => ⟨t1.1.2.2.1, k_lev t1.1 (by decide) (by decide) (fun r3 w3 g3 => ?_)⟩))
  have T1 := t1.tg hw
  have T3 := TG.tr hw T1 (g3.1.tg T1.1)
  have o3 : w3.1 87 8 = w.1 87 8 := g3.2.trans t1.ge.2
  have b1 := bd_108_1 t1.1.1
  have nmb : ∀ v : MW, TG w1 v → wr v < 0 → 0 ≤ nm.toInt ∧ nm.toInt ≤ 39 := fun v tv c => by
    have q := (tv.2.2 c).1
    omega
  have K : ∀ (due : Int32), q_Rd_readChange_38 a nm (w1.1 108 1) due r3 w3 Q := fun due => by
    refine Eq.mpr (q_Rd_readChange_38.eq_1 _ _ _ _ _ _ _) (k_demand g3.1.1 (fun w7 t7 => ⟨t7.1.2.2.1, fun _ => k_take t7.1 (fun w10 t10 => ?_), fun _ => k_take t7.1 (fun w13 t13 => k_lev t13.1 (by decide) (by decide) (fun r14 w14 g14 => k_demand g14.1.1 (fun w15 t15 => k_take t15.1 (fun w16 t16 => ?_))))⟩))
    · have T7 := TG.tr T1.1 (g3.1.tg T1.1) (t7.tg T3.1)
      have T10 := TG.tr T1.1 T7 (t10.tg T7.1)
      have b7 := bd_108_1 t7.1.1
      exact k_range hw (TG.tr hw T1 T10) ((t10.ge.2.trans t7.ge.2).trans o3) (by omega) (by omega) (fun c _ => nmb w10 T10 c) b1.1 b1.2 b7.1 b7.2 (fun c => by have e := t10.nd; unfold ndC at *; omega) hQ
    · have T7 := TG.tr T1.1 (g3.1.tg T1.1) (t7.tg T3.1)
      have T13 := TG.tr T1.1 T7 (t13.tg T7.1)
      have T14 := TG.tr T1.1 T13 (g14.1.tg T13.1)
      have T15 := TG.tr T1.1 T14 (t15.tg T14.1)
      have T16 := TG.tr T1.1 T15 (t16.tg T15.1)
      have b7 := bd_108_1 t7.1.1
      refine k_range hw (TG.tr hw T1 T16) ((t16.ge.2.trans t15.ge.2).trans ((g14.2.trans (t13.ge.2.trans t7.ge.2)).trans o3)) (by omega) (by omega) (fun c _ => nmb w16 T16 c) b1.1 b1.2 b7.1 b7.2 (fun c => ?_) hQ
      have e1 := ((t16.tg T15.1).2.2 c)
      have e2 := ((t15.tg T14.1).2.2 e1.1)
      have e3 := (g14.1.2.2.2 e2.1)
      have d1 := e1.2.1
      have d2 := e2.2.1
      have d3 := e3.2.1
      have d4 := t13.nd
      unfold ndC at *
      omega
  exact ⟨fun c => ⟨g3.1.1.2.2.1, ⟨c, by omega⟩, K _⟩, fun _ => K _⟩
theorem k_pause {w : MW} {a : Int32} {Q : Int32 → MW → Prop} (hw : RN w) (a0 : a.toInt = 12 ∨ a.toInt = 13) (hQ : ∀ r w', StO 11 26 w r w' → Q r w') : p_Rd_readPause w a Q := by
  have b1 := bd_108_1 hw.1.1
  have K : ∀ w3 : MW, TG w w3 → w3.1 87 8 = w.1 87 8 → q_Rd_readPause_33 a (w.1 108 1) w3 Q := fun w3 T3 o3 => by
    have b3 := bd_108_1 T3.1.1.1
    refine Eq.mpr (q_Rd_readPause_33.eq_1 _ _ _ _) ⟨T3.1.1.2.2.1, k_take T3.1.1 (fun w5 t5 => k_range hw (TG.tr hw T3 (t5.tg T3.1)) (t5.ge.2.trans o3) (by omega) (by omega) (fun _ q => by omega) b1.1 b1.2 b3.1 b3.2 (fun _ => ?_) hQ)⟩
    have e := t5.nd
    unfold ndC at *
    omega
  exact Eq.mpr (p_Rd_readPause.eq_1 _ _ _) ⟨hw.1.2.2.1, fun _ => k_lev hw.1 (by decide) (by decide) (fun r3 w3 g3 => K w3 (g3.1.tg hw) g3.2), fun _ => k_lev hw.1 (by decide) (by decide) (fun r8 w8 g8 => k_demand g8.1.1 (fun w9 t9 => K w9 (TG.tr hw (g8.1.tg hw) (t9.tg (g8.1.tg hw).1)) (t9.ge.2.trans g8.2)))⟩
theorem k_87 {w w1 : MW} {a b : Int32} {Q : Int32 → MW → Prop} (hw : RN w) (t : TG w w1) (ho : w1.1 87 8 = w.1 87 8) (a0 : 22 ≤ a.toInt) (a1 : a.toInt ≤ 26) (hb : wr w1 < 0 → (a.toInt = 22 ∨ a.toInt = 23) → 0 ≤ b.toInt ∧ b.toInt ≤ 39) (hd : a.toInt = 23 → 0 ≤ b.toInt → b.toInt ≤ 39 ∧ b.toInt < nmC w1 ∧ nkB w1 b.toInt = 10) (hQ : ∀ r w', StO 11 26 w r w' → Q r w') : q_Rd_readShort_87 a b w1 Q := by
  refine Eq.mpr (q_Rd_readShort_87.eq_1 _ _ _ _) (k_take t.1.1 (fun w4 t4 => ?_))
  have T4 := TG.tr hw t (t4.tg t.1)
  have o4 : w4.1 87 8 = w.1 87 8 := t4.ge.2.trans ho
  have m4 : SM w1 w4 := SM.fr t4.2.1 rfl
  have c41 : wr w4 < 0 → wr w1 < 0 := fun c => ((t4.tg t.1).2.2 c).1
  refine k_node t4.1 (fun r w5 hD r0 r1 hc => ?_)
  have g : 0 ≤ r.toInt ∧ r.toInt < 301 := ⟨r0, by omega⟩
  have P : ¬ a.toInt = 23 ∨ b.toInt < 0 → Q r w5 := fun hp => by
    refine hQ r w5 (mk_fin hw T4 o4 hD r0 r1 hc (FR.refl lmk w5) hD.1.1 (fun j _ _ => SN.refl j w5) (by omega) a1 (fun c1 c2 e N S kK kA _ => ?_))
    have h1 := hb (c41 c1)
    refine ⟨fun q => by rw [kA]; exact h1 (by omega), ⟨by rw [N.2.2.2.1]; exact Int.le_refl _, fun q => by rw [N.2.2.1, N.2.2.2.1] at q; omega⟩, ⟨by rw [N.2.2.2.2.2.2.1]; omega, by rw [N.2.2.2.2.2.2.1]; omega, by rw [N.2.2.2.2.2.2.2]; omega, by rw [N.2.2.2.2.2.2.2]; omega⟩, fun _ => Or.inl N.2.2.2.2.1, fun q => by omega, fun _ _ => ⟨0, by rw [N.2.2.2.2.1, N.2.2.2.2.2.2.1]; exact ⟨rfl, by omega⟩⟩, fun q => ?_⟩
    have := h1 (by omega)
    omega
  refine ⟨fun c => P (Or.inl c), fun c23 => ⟨fun c => P (Or.inr c), fun cb => ?_⟩⟩
  have d := hd (by omega) (by omega)
  have n5 : SM w1 w5 := ⟨((SM.fr hD.2.1 rfl).1).trans m4.1, fun i => ((SM.fr hD.2.1 rfl).2.1 i).trans (m4.2.1 i), fun i => ((SM.fr hD.2.1 rfl).2.2 i).trans (m4.2.2 i)⟩
  have bn := bd_119 hD.1.1 b.toInt.toNat
  have nk : 0 ≤ (w5.1 119 b.toInt.toNat).toInt := by
    have z := t.1.2.1 b d.2.2
    have e : (w5.1 119 b.toInt.toNat).toInt = (w1.1 119 b.toInt.toNat).toInt := n5.2.2 b.toInt
    rw [e]
    exact z
  have gb : 0 ≤ b.toInt ∧ b.toInt < 40 := ⟨by omega, by omega⟩
  have gn : 0 ≤ (w5.1 119 b.toInt.toNat).toInt ∧ (w5.1 119 b.toInt.toNat).toInt < 301 := ⟨nk, by omega⟩
  have eN : (w5.1 119 b.toInt.toNat).toInt = nbB w5 b.toInt := rfl
  have M : ∀ x : Int32, (wr w5 < 0 → 1 ≤ yS w5 (nbB w5 b.toInt) → yS w5 (nbB w5 b.toInt) ≤ 501 → (1 ≤ x.toInt ∧ x.toInt ≤ 501 ∧ (x.toInt ≤ 500 → 1 + yS w5 (nbB w5 b.toInt) ≤ x.toInt))) → ((0 ≤ r.toInt ∧ r.toInt < 301) ∧ ((w5.2.2 87 1 = some 108) ∧ ((0 ≤ b.toInt ∧ b.toInt < 40) ∧ ((0 ≤ (w5.1 119 b.toInt.toNat).toInt ∧ (w5.1 119 b.toInt.toNat).toInt < 301) ∧ ((0 ≤ r.toInt ∧ r.toInt < 301) ∧ (Q r (sI (sI w5 88 r.toInt.toNat x) 89 r.toInt.toNat (w5.1 89 ((w5.1 119 b.toInt.toNat).toInt.toNat))))))))) := fun x hx => by
    refine ⟨g, hD.1.2.2.1, gb, gn, g, hQ _ _ (mk_fin hw T4 o4 hD r0 r1 hc (FR.I (FR.I (FR.refl lmk w5) rfl) rfl) (wbd_89 (wbd_88 hD.1.1 _) _) (fun j j0 j1 => ?_) (by omega) a1 (fun c1 c2 e N S kK kA sm => ?_))⟩
    · have nj : j.toNat ≠ r.toInt.toNat := by omega
      exact ⟨rfl, rfl, rfl, rfl, rfl, rfl, congrArg Int32.toInt (sI_ne w5 88 j.toNat r.toInt.toNat x nj), congrArg Int32.toInt (sI_ne (sI w5 88 r.toInt.toNat x) 89 j.toNat r.toInt.toNat _ nj)⟩
    · have eS : yS (sI (sI w5 88 r.toInt.toNat x) 89 r.toInt.toNat (w5.1 89 ((w5.1 119 b.toInt.toNat).toInt.toNat))) r.toInt = x.toInt := congrArg Int32.toInt (sI_same w5 88 r.toInt.toNat x)
      have eD : yD (sI (sI w5 88 r.toInt.toNat x) 89 r.toInt.toNat (w5.1 89 ((w5.1 119 b.toInt.toNat).toInt.toNat))) r.toInt = yD w5 (nbB w5 b.toInt) := congrArg Int32.toInt (sI_same (sI w5 88 r.toInt.toNat x) 89 r.toInt.toNat _)
      have eT : yT (sI (sI w5 88 r.toInt.toNat x) 89 r.toInt.toNat (w5.1 89 ((w5.1 119 b.toInt.toNat).toInt.toNat))) r.toInt = r.toInt := N.2.2.2.1
      have eF : yF (sI (sI w5 88 r.toInt.toNat x) 89 r.toInt.toNat (w5.1 89 ((w5.1 119 b.toInt.toNat).toInt.toNat))) r.toInt = r.toInt := N.2.2.1
      have p4 := T4.2.2 c1
      have NIw := hw.2.2 p4.1
      have q5 := hc c2
      have e5 : nbB w5 b.toInt = nbB w b.toInt := by
        have s1 := (SM.fr (t.2.1.1) rfl : SM w w1)
        exact (n5.2.2 b.toInt).trans (s1.2.2 b.toInt)
      have z := NIw b.toInt (by omega) (by have s1 := (SM.fr (t.2.1.1) rfl : SM w w1); rw [← s1.1]; exact d.2.1) (by have s1 := (SM.fr (t.2.1.1) rfl : SM w w1); rw [← s1.2.1]; exact d.2.2)
      have w5n : SN (nbB w b.toInt) w w5 := (p4.2.2.1 _ z.1 z.2.1).tr (q5.2.2.2.2.1 _ z.1 (by omega))
      have w3n : SN (nbB w b.toInt) w _ := (p4.2.2.1 _ z.1 z.2.1).tr (S _ z.1 (by omega))
      have hx' := hx c2 (by rw [e5, w5n.2.2.2.2.2.2.1]; exact z.2.2.2.2.1.1) (by rw [e5, w5n.2.2.2.2.2.2.1]; exact z.2.2.2.2.1.2)
      rw [e5, w5n.2.2.2.2.2.2.1] at hx'
      rw [e5, w5n.2.2.2.2.2.2.2] at eD
      have hz := z.2.2.2.2.2
      refine ⟨fun _ => by rw [kA]; exact ⟨by omega, by omega⟩, ⟨by omega, fun q => by omega⟩, ⟨by omega, by omega, by omega, by omega⟩, fun q => absurd (by omega) q, fun q => by omega, fun q => absurd (by omega) q, fun _ => ?_⟩
      rw [kA, sm.1, sm.2.1, sm.2.2, w3n.1, w3n.2.2.2.2.2.1, w3n.2.2.2.2.2.2.1, w3n.2.2.2.2.2.2.2, eS, eD]
      have s1 := (SM.fr (t.2.1.1) rfl : SM w w1)
      exact ⟨by rw [← s1.1]; exact d.2.1, by rw [← s1.2.1]; exact d.2.2, z.1, z.2.1, z.2.2.1, z.2.2.2.1, z.2.2.2.2.1.1, hx'.2.2, Int.le_refl _⟩
  refine ⟨hD.1.2.2.1, gb, gn, Eq.mpr (p_Ma_min.eq_1 _ _ _ _) ⟨fun c => M 501 (fun _ _ _ => ⟨by decide, by decide, fun q => absurd q (by decide)⟩), fun c => M _ (fun _ s0 s1 => ?_)⟩⟩
  have eS : (w5.1 88 ((w5.1 119 b.toInt.toNat).toInt.toNat)).toInt = yS w5 (nbB w5 b.toInt) := rfl
  have s := ti_add2 i_1 eS (by omega) (by omega)
  rw [(by decide : ((501 : Int32)).toInt = 501)] at c
  omega
theorem k_short {w : MW} {a : Int32} {Q : Int32 → MW → Prop} (hw : RN w) (a0 : 22 ≤ a.toInt) (a1 : a.toInt ≤ 26) (hQ : ∀ r w', StO 11 26 w r w' → Q r w') : p_Rd_readShort w a Q := by
  have A : ∀ (w1 w2 : MW) (x : Int32), TkS w w1 → TkS w1 w2 → a.toInt = 26 → q_Rd_readShort_87 a x w2 Q := fun w1 w2 x t1 t2 e => k_87 hw ((t1.tr t2).tg hw) (t1.tr t2).ge.2 a0 a1 (fun _ q => by omega) (fun q => by omega) hQ
  refine Eq.mpr (p_Rd_readShort.eq_1 _ _ _) ⟨fun _ => ⟨fun _ => ⟨fun _ => k_87 hw (TG.refl hw) rfl a0 a1 (fun _ q => by omega) (fun q => by omega) hQ, fun c26 => ⟨fun _ => k_fail hw.1 (fun w1 t1 _ => k_take t1.1 (fun w2 t2 => A w1 w2 _ t1 t2 (by omega))), fun _ => ⟨fun _ => k_fail hw.1 (fun w1 t1 _ => k_take t1.1 (fun w2 t2 => A w1 w2 _ t1 t2 (by omega))), fun _ => ⟨fun _ => k_take hw.1 (fun w2 t2 => A w w2 _ (TkS.refl hw.1) t2 (by omega)), fun _ => k_fail hw.1 (fun w1 t1 _ => k_take t1.1 (fun w2 t2 => A w1 w2 _ t1 t2 (by omega)))⟩⟩⟩⟩, fun c23 => k_name hw.1 (fun r w1 t1 r0 r1 hr => k_87 hw (t1.tg hw) t1.ge.2 a0 a1 (fun c _ => by omega) (fun _ c => ?_) hQ)⟩, fun c22 => k_name hw.1 (fun r w1 t1 r0 r1 hr => k_87 hw (t1.tg hw) t1.ge.2 a0 a1 (fun c _ => by omega) (fun q => by omega) hQ)⟩
  have z := hr.resolve_left (fun q => by omega)
  exact ⟨r1, z.2.1, z.2.2.trans (by decide)⟩
