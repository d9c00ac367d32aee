/-! the class's reader: par, guarded statements, all statements -/
def PrL (w v : MW) (f b al D i : Int32) : Prop := TG w v ∧ v.1 87 8 = w.1 87 8 ∧ (0 ≤ b.toInt ∧ b.toInt ≤ 300) ∧ (wr v < 0 → (1 ≤ al.toInt ∧ al.toInt ≤ 502 ∧ (1 ≤ i.toInt → al.toInt ≤ 501)) ∧ (0 ≤ D.toInt ∧ D.toInt ≤ ndC v) ∧ LsT w v 35 35 f.toInt b.toInt al.toInt D.toInt)
theorem x_p27 {B S : MW → (Int32 → MW → Prop) → Prop} {G : MW → Int32 → (Int32 → MW → Prop) → Prop} {P : MW → (Int32 → MW → Prop) → Prop} {w : MW} {f : Int32} {E : Int32 → Int32 → MW → Prop} {Q : Int32 → MW → Prop} (hw : RN w) (hB : RcS 35 35 (w.1 87 8).toInt B) (hE : ∀ (b al D i : Int32) (v : MW), PrL w v f b al D i → (wr v < 0 → 1 ≤ i.toInt) → E al D v) (n : Nat) : ∀ (b al D i : Int32) (v : MW), PrL w v f b al D i → 0 ≤ i.toInt → i.toInt ≤ 4001 → (4001 - i.toInt).toNat < n → q_Rd_readPar_27 B G P S f E Q n b al D i v := by
  induction n with
  | zero => intros; omega
  | succ n ih =>
    intro b al D i v h i0 i1 hm
    rw [q_Rd_readPar_27.eq_2]
    have hb := h.2.2.1
    have M56 : i.toInt ≤ 4000 → q_Rd_readPar_56 B G P S f b al D i v (fun (x27_2 : Int32) (x27_3 : Int32) (x27_4 : Int32) (x27_5 : Int32) (w : MW) => q_Rd_readPar_27 B G P S f E Q n x27_2 x27_3 x27_4 x27_5 w) E Q := fun ci => by
      have si := ti_add2 (Eq.refl i.toInt) i_1 (by omega) (by omega)
      refine Eq.mpr (q_Rd_readPar_56.eq_1 _ _ _ _ _ _ _ _ _ _ _ _ _) (hB v _ h.1.1 (congrArg Int32.toInt h.2.1) (fun r v1 t => ?_))
      have g : 0 ≤ r.toInt ∧ r.toInt < 301 := ⟨t.2.2.1.1, by have := t.2.2.1.2; omega⟩
      have r300 := t.2.2.1.2
      have eS : (v1.1 88 r.toInt.toNat).toInt = yS v1 r.toInt := rfl
      have tl : TG w (sI v1 114 b.toInt.toNat r) := tg_link hw h.1 hb.1 (fun c => ⟨(h.2.2.2 c).2.2.1, (h.2.2.2 c).2.2.2.1⟩) t.1 (by omega) r300
      have ol : (sI v1 114 b.toInt.toNat r).1 87 8 = w.1 87 8 := t.2.1.trans h.2.1
      have xl : NSx b.toInt (ndC v1) v1 (sI v1 114 b.toInt.toNat r) := nsx_link hb.1
      have yl : yX (sI v1 114 b.toInt.toNat r) b.toInt = r.toInt := by rw [yX_set hb.1 hb.1, if_pos rfl]
      have nl : ndC (sI v1 114 b.toInt.toNat r) = ndC v1 := rfl
      have wl : wr (sI v1 114 b.toInt.toNat r) = wr v1 := rfl
      have eD : ((sI v1 114 b.toInt.toNat r).1 89 r.toInt.toNat).toInt = yD v1 r.toInt := rfl
      refine ⟨t.1.1.1.2.2.1, ⟨hb.1, by omega⟩, g, ?_⟩
      generalize (sI v1 114 b.toInt.toNat r) = v2 at *
      have M : ∀ al' D' : Int32, (wr v1 < 0 → 1 ≤ yS v1 r.toInt → yS v1 r.toInt ≤ 501 → 1 ≤ al.toInt → al.toInt ≤ 502 → (1 ≤ al'.toInt ∧ al'.toInt ≤ 501 ∧ (al'.toInt ≤ 500 → al'.toInt = al.toInt + yS v1 r.toInt))) → (D.toInt ≤ D'.toInt ∧ yD v1 r.toInt ≤ D'.toInt ∧ (D'.toInt = D.toInt ∨ D'.toInt = yD v1 r.toInt)) → q_Rd_readPar_27 B G P S f E Q n r al' D' (i + (1 : Int32)) v2 := fun al' D' ha hD => by
        refine ih _ _ _ _ _ ⟨tl, ol, ⟨g.1, r300⟩, fun c => ?_⟩ (by omega) (by omega) (by omega)
        have c1 : wr v1 < 0 := by rw [← wl]; exact c
        have q := t.1.2.2 c1
        have z := h.2.2.2 q.1
        have T := (q.2.2.2 r.toInt (t.2.2.2 c1).1 (by have := (t.2.2.2 c1).2.1; omega)).2.2.1
        have a := ha c1 T.1 T.2.1 z.1.1 z.1.2.1
        have sr := (t.2.2.2 c1)
        exact ⟨⟨a.1, by omega, fun _ => a.2.1⟩, ⟨by omega, by omega⟩, ls_more hw h.1 z.2.2 t c1 nl xl yl hD.1 hD.2.1 (fun c5 => by have := a.2.2 c5; omega)⟩
      have N : ∀ al' : Int32, (wr v1 < 0 → 1 ≤ yS v1 r.toInt → yS v1 r.toInt ≤ 501 → 1 ≤ al.toInt → al.toInt ≤ 502 → (1 ≤ al'.toInt ∧ al'.toInt ≤ 501 ∧ (al'.toInt ≤ 500 → al'.toInt = al.toInt + yS v1 r.toInt))) → ((0 ≤ r.toInt ∧ r.toInt < 301) ∧ (p_Ma_max v2 D (v2.1 89 r.toInt.toNat) (fun r13 w13 => (q_Rd_readPar_27 B G P S f E Q n r al' r13 (i + (1 : Int32)) w13)))) := fun al' ha => ⟨g, Eq.mpr (p_Ma_max.eq_1 _ _ _ _) ⟨fun c => M al' _ ha ⟨by omega, by omega, by right; exact eD⟩, fun c => M al' _ ha ⟨by omega, by omega, by left; rfl⟩⟩⟩
      refine Eq.mpr (p_Ma_min.eq_1 _ _ _ _) ⟨fun c => N 501 (fun _ _ _ _ _ => ⟨by decide, by decide, fun q => absurd q (by decide)⟩), fun c => N _ (fun _ s0 s1 a0 a1 => ?_)⟩
      have s := ti_add2 (Eq.refl al.toInt) eS (by omega) (by omega)
      rw [(by decide : ((501 : Int32)).toInt = 501)] at c
      omega
    exact ⟨fun c => hE b al D i v h (fun _ => by omega), fun c => ⟨fun d => hE b al D i v h (fun q => by unfold wr at q; omega), fun _ => ⟨fun _ => M56 (by omega), fun c0 => ⟨fun _ => hE b al D i v h (fun _ => by omega), fun _ => M56 (by omega)⟩⟩⟩⟩
theorem x_rpar {B S : MW → (Int32 → MW → Prop) → Prop} {G : MW → Int32 → (Int32 → MW → Prop) → Prop} {P : MW → (Int32 → MW → Prop) → Prop} {w : MW} {Q : Int32 → MW → Prop} (hw : RN w) (hB : RcS 35 35 (w.1 87 8).toInt B) (hQ : ∀ r w', StO 11 26 w r w' → Q r w') : pb_Rd_readPar B G P S w Q := by
  refine Eq.mpr (pb_Rd_readPar.eq_1 _ _ _ _ _ _) (hB w _ hw rfl (fun r1 w1 t1 => ?_))
  have g1 : 0 ≤ r1.toInt ∧ r1.toInt < 301 := ⟨t1.2.2.1.1, by have := t1.2.2.1.2; omega⟩
  have eS : (w1.1 88 r1.toInt.toNat).toInt = yS w1 r1.toInt := rfl
  have eD : (w1.1 89 r1.toInt.toNat).toInt = yD w1 r1.toInt := rfl
  refine ⟨g1, g1, x_p27 hw hB (fun b al D i v h hi => ?_) FU r1 _ _ 0 w1 ⟨t1.1, t1.2.1, t1.2.2.1, fun c => ?_⟩ (by decide) (by decide) (fu_lt (by decide))⟩
  · refine k_node h.1.1.1 (fun r w2 hD r0 rr hc => ?_)
    have g : 0 ≤ r.toInt ∧ r.toInt < 301 := ⟨r0, by omega⟩
    refine ⟨hD.1.2.2.1, g, g, g, hQ _ _ (mk_fin hw h.1 h.2.1 hD r0 rr hc (FR.I (FR.I (FR.I (FR.refl lmk w2) rfl) rfl) rfl) (wbd_89 (wbd_88 (wbd_113 hD.1.1 _ (by omega) (by omega)) _) _) (fun j j0 j1 => ?_) (by decide) (by decide) (fun c1 c2 e N S kK kA sm => ?_))⟩
    · have nj : j.toNat ≠ r.toInt.toNat := by omega
      exact ⟨rfl, rfl, rfl, rfl, congrArg Int32.toInt (sI_ne w2 113 j.toNat r.toInt.toNat r1 nj), rfl, congrArg Int32.toInt (sI_ne w2 88 j.toNat r.toInt.toNat al nj), congrArg Int32.toInt (sI_ne w2 89 j.toNat r.toInt.toNat D nj)⟩
    · have eI : yI (sI (sI (sI w2 113 r.toInt.toNat r1) 88 r.toInt.toNat al) 89 r.toInt.toNat D) r.toInt = r1.toInt := congrArg Int32.toInt (sI_same w2 113 r.toInt.toNat r1)
      have eS3 : yS (sI (sI (sI w2 113 r.toInt.toNat r1) 88 r.toInt.toNat al) 89 r.toInt.toNat D) r.toInt = al.toInt := congrArg Int32.toInt (sI_same w2 88 r.toInt.toNat al)
      have eD3 : yD (sI (sI (sI w2 113 r.toInt.toNat r1) 88 r.toInt.toNat al) 89 r.toInt.toNat D) r.toInt = D.toInt := congrArg Int32.toInt (sI_same w2 89 r.toInt.toNat D)
      have eT : yT (sI (sI (sI w2 113 r.toInt.toNat r1) 88 r.toInt.toNat al) 89 r.toInt.toNat D) r.toInt = r.toInt := N.2.2.2.1
      have eF : yF (sI (sI (sI w2 113 r.toInt.toNat r1) 88 r.toInt.toNat al) 89 r.toInt.toNat D) r.toInt = r.toInt := N.2.2.1
      generalize (sI (sI (sI w2 113 r.toInt.toNat r1) 88 r.toInt.toNat al) 89 r.toInt.toNat D) = w3 at *
      have H := h.2.2.2 c1
      have i1 := hi c1
      have a5 := H.1.2.2 i1
      have k16 : yK w3 r.toInt = 16 := kK
      have n0 := nd_0 hw.1
      have L1 := H.2.2.1
      have L2 := H.2.2.2.1
      have L4 := H.2.2.2.2.2.1
      refine ⟨fun q => by omega, ⟨by omega, fun q => by omega⟩, ⟨by omega, by omega, by omega, by omega⟩, fun _ => Or.inr ⟨by omega, by omega⟩, fun q => by omega, fun _ c5 => ?_, fun q => by omega⟩
      rw [eI, eS3]
      rw [eS3] at c5
      exact ls_chain H.2.2 (by omega) (fun j j0 j1 => S j j0 (by omega)) (Or.inr ⟨by omega, rfl, rfl, by omega⟩) c5 n0
  · have q := t1.1.2.2 c
    have T := (q.2.2.2 r1.toInt (t1.2.2.2 c).1 (by have := (t1.2.2.2 c).2.1; omega)).2.2.1
    have s := ti_add2 i_1 eS (by omega) (by omega)
    have O := ls_one (al := ((1 : Int32) + (w1.1 88 r1.toInt.toNat)).toInt) hw (TG.refl hw) t1 c (fun c5 => by omega)
    exact ⟨⟨by omega, by omega, fun q => by rw [i_0] at q; omega⟩, ⟨O.2.2.1, O.2.2.2⟩, O.1⟩
def lmk2 : Pl := [(88, none), (89, none), (111, none), (112, none), (113, none), (114, none)]
/-- a node was made, its own fields told, and a root linked -/
theorem mk_fin2 {lo hi f0 : Int} {w wA w1 w2 w3 : MW} {r a b : Int32} (hw : RN w) (tA : TG w wA) (hA : wr wA < 0 → ndC w ≤ f0 ∧ f0 + 1 = ndC wA) (t1 : TG wA w1) (ho : w1.1 87 8 = w.1 87 8) (hD : RdS w1 w2) (r0 : 0 ≤ r.toInt) (r1 : r.toInt ≤ 300) (hc : wr w2 < 0 → wr w1 < 0 ∧ r.toInt = ndC w1 ∧ ndC w2 = ndC w1 + 1 ∧ ndC w1 < 300 ∧ (∀ j, 0 ≤ j → j ≠ r.toInt → SN j w1 w2) ∧ NwN w2 r.toInt a.toInt b.toInt) (hF : FR lmk2 w2 w3) (hI : BND w3) (hs : ∀ j, 0 ≤ j → j ≠ r.toInt → (yK w3 j = yK w2 j ∧ yA w3 j = yA w2 j ∧ yF w3 j = yF w2 j ∧ yT w3 j = yT w2 j ∧ yI w3 j = yI w2 j ∧ yS w3 j = yS w2 j ∧ yD w3 j = yD w2 j) ∧ (¬ j = f0 → yX w3 j = yX w2 j)) (hx : ¬ r.toInt = f0 → yX w3 r.toInt = yX w2 r.toInt) (k1 : lo ≤ a.toInt) (k2 : a.toInt ≤ hi) (hT : wr w1 < 0 → wr w2 < 0 → r.toInt = ndC w1 → NwN w2 r.toInt a.toInt b.toInt → NSx f0 r.toInt w1 w3 → yK w3 r.toInt = a.toInt → yA w3 r.toInt = b.toInt → TCm w3 (ndC w) r.toInt) : StO lo hi w r w3 := by
  have e9 := wr_eq hF rfl
  have e1 := nd_eq hF rfl
  have n0 := nd_0 hw.1
  have R : RW w3 := hD.1.fr hI hF (by unfold PP; rw [(hF 87 4 rfl).1]; exact hD.1.2.2.2) rfl
  have F3 : FR lcr w1 w3 := hD.2.1.tr hF rfl
  have FA : FR lcr wA w3 := t1.2.1.1.tr F3 rfl
  have F : FR lcr w w3 := tA.2.1.1.tr FA rfl
  have S : wr w3 < 0 → NSx f0 r.toInt w1 w3 := fun c j j0 j1 => by
    have q := (hc (by rw [← e9]; exact c)).2.2.2.2.1 j j0 (by omega)
    have p := hs j j0 (by omega)
    exact ⟨⟨p.1.1.trans q.1, p.1.2.1.trans q.2.1, p.1.2.2.1.trans q.2.2.1, p.1.2.2.2.1.trans q.2.2.2.1, p.1.2.2.2.2.1.trans q.2.2.2.2.1, p.1.2.2.2.2.2.1.trans q.2.2.2.2.2.2.1, p.1.2.2.2.2.2.2.trans q.2.2.2.2.2.2.2⟩, fun d => (p.2 d).trans q.2.2.2.2.2.1⟩
  have C : wr w3 < 0 → wr w < 0 ∧ ndC w ≤ ndC w3 ∧ NS (ndC w) w w3 := fun c => by
    have q := hc (by rw [← e9]; exact c)
    have p := t1.2.2 q.1
    have o := tA.2.2 p.1
    have a := hA p.1
    exact ⟨o.1, by omega, (o.2.2.1.tr p.2.2.1 o.2.1).tr (fun j j0 j1 => (NSx.ns (fun j a b => S c j a (by omega) : NSx f0 (ndC w) w1 w3) a.1) j j0 j1) (Int.le_refl _)⟩
  have kx : yK w3 r.toInt = yK w2 r.toInt := by unfold yK; rw [(hF 109 _ rfl).1]
  have ka : yA w3 r.toInt = yA w2 r.toInt := by unfold yA; rw [(hF 110 _ rfl).1]
  refine ⟨⟨hw.st R F C, ⟨F, ((tA.2.1.2.tr t1.2.1.2).tr hD.2.2.1).tr (WM.fr hF rfl)⟩, fun c => ?_⟩, ((hF 87 8 rfl).1.trans hD.2.2.2).trans ho, ⟨r0, r1⟩, fun c => ?_⟩
  · have z := C c
    have q := hc (by rw [← e9]; exact c)
    have p := t1.2.2 q.1
    have o := tA.2.2 p.1
    have a := hA p.1
    have NIw := hw.2.2 o.1
    have nb : ∀ (v : MW), SM w v → ∀ i, 0 ≤ i → i < nmC v → nkB v i = 10 → nbB v i < ndC w := fun v n i i0 i1 i2 => by
      rw [n.1] at i1
      rw [n.2.1] at i2
      rw [n.2.2]
      exact (NIw i i0 i1 i2).2.1
    refine ⟨z.1, z.2.1, z.2.2, fun m m0 m1 => ?_⟩
    by_cases d : m < ndC wA
    · exact (o.2.2.2 m m0 d).sx n0 m0 (NSx.tr ((p.2.2.1.wk (by omega : m + 1 ≤ ndC wA)).x f0) (fun j j0 j1 => S c j j0 (by omega))) (SM.fr FA rfl) (Or.inr (by omega)) (fun i i0 i1 i2 => Int.lt_of_lt_of_le (nb wA (SM.fr tA.2.1.1 rfl) i i0 i1 i2) a.1)
    · by_cases d2 : m < ndC w1
      · have T := (p.2.2.2 m (by omega) d2).sx (by omega) (by omega) (fun j j0 j1 => S c j j0 (by omega)) (SM.fr F3 rfl) (Or.inl (by omega)) (fun i i0 i1 i2 => Int.lt_of_lt_of_le (nb w1 (SM.fr (tA.2.1.1.tr t1.2.1.1 rfl : FR lcr w w1) rfl) i i0 i1 i2) a.1)
        exact T.lo o.2.1 (fun i i0 i1 i2 => nb w3 (SM.fr F rfl) i i0 i1 i2)
      · have e : m = r.toInt := by omega
        rw [e]
        exact hT q.1 (by rw [← e9]; exact c) q.2.1 q.2.2.2.2.2 (S c) (kx.trans q.2.2.2.2.2.1) (ka.trans q.2.2.2.2.2.2.1)
  · have q := hc (by rw [← e9]; exact c)
    have p := t1.2.2 q.1
    have o := tA.2.2 p.1
    have a := hA p.1
    have N := q.2.2.2.2.2
    refine ⟨by omega, by omega, by rw [hx (by omega)]; exact N.2.2.2.2.2.1, by rw [kx, N.1]; exact k1, by rw [kx, N.1]; exact k2⟩
/-- the second block of a guarded statement -/
def SndB (wA w1 : MW) (s : Int32) : Prop := s.toInt = -1 ∨ (ndC wA ≤ s.toInt ∧ s.toInt + 1 = ndC w1 ∧ yX w1 s.toInt = -1 ∧ yK w1 s.toInt = 35 ∧ (1 ≤ yS w1 s.toInt ∧ yS w1 s.toInt ≤ 501) ∧ 0 ≤ yD w1 s.toInt ∧ yD w1 s.toInt ≤ s.toInt + 1)
theorem x_g94 {B S : MW → (Int32 → MW → Prop) → Prop} {G : MW → Int32 → (Int32 → MW → Prop) → Prop} {P : MW → (Int32 → MW → Prop) → Prop} {w wB wA w1 : MW} {kd fr to f s : Int32} {Q : Int32 → MW → Prop} (hw : RN w) (tB : TG w wB) (tf : StO 35 35 wB f wA) (t1 : TG wA w1) (ho : w1.1 87 8 = w.1 87 8) (hk : kd.toInt = 17 ∨ kd.toInt = 19 ∨ kd.toInt = 20) (f0 : 0 ≤ fr.toInt) (f1 : fr.toInt ≤ 301) (t0 : 0 ≤ to.toInt) (t01 : to.toInt ≤ 301) (ht : to.toInt ≤ ndC wB) (s0 : -1 ≤ s.toInt) (s1 : s.toInt ≤ 300) (hs : wr w1 < 0 → SndB wA w1 s) (hQ : ∀ r w', StO 11 26 w r w' → Q r w') : q_Rd_readGuarded_94 B G P S kd fr to f s w1 Q := by
  have gf : 0 ≤ f.toInt ∧ f.toInt < 301 := ⟨tf.2.2.1.1, by have := tf.2.2.1.2; omega⟩
  have tA := TG.tr hw tB tf.1
  have n0 := nd_0 hw.1
  refine Eq.mpr (q_Rd_readGuarded_94.eq_1 _ _ _ _ _ _ _ _ _ _ _) (k_node t1.1.1 (fun r w2 hD r0 r1 hc => ?_))
  have g : 0 ≤ r.toInt ∧ r.toInt < 301 := ⟨r0, by omega⟩
  have r2 : (sI (sI w2 111 r.toInt.toNat fr) 112 r.toInt.toNat to).2.2 87 1 = some 108 := hD.1.2.2.1
  have W : ∀ (sz dp : Int32), (wr w1 < 0 → wr w2 < 0 → 1 ≤ yS w2 f.toInt → yS w2 f.toInt ≤ 501 → (0 ≤ s.toInt → 1 ≤ yS w2 s.toInt ∧ yS w2 s.toInt ≤ 501) → 1 ≤ sz.toInt ∧ sz.toInt ≤ 501 ∧ (sz.toInt ≤ 500 → (s.toInt < 0 → 1 + yS w2 f.toInt ≤ sz.toInt) ∧ (0 ≤ s.toInt → 1 + yS w2 f.toInt + yS w2 s.toInt ≤ sz.toInt))) → (yD w2 f.toInt ≤ dp.toInt ∧ (0 ≤ s.toInt → yD w2 s.toInt ≤ dp.toInt) ∧ (dp.toInt = yD w2 f.toInt ∨ dp.toInt = 0 ∨ (0 ≤ s.toInt ∧ dp.toInt = yD w2 s.toInt))) → StO 11 26 w r (sI (sI (sI (sI (sI (sI w2 111 r.toInt.toNat fr) 112 r.toInt.toNat to) 113 r.toInt.toNat f) 114 f.toInt.toNat s) 88 r.toInt.toNat sz) 89 r.toInt.toNat dp) := fun sz dp hsz hdp => by
    refine mk_fin2 (f0 := f.toInt) hw tA (fun c => ?_) t1 ho hD r0 r1 hc (FR.I (FR.I (FR.I (FR.I (FR.I (FR.I (FR.refl lmk2 w2) rfl) rfl) rfl) rfl) rfl) rfl) (wbd_89 (wbd_88 (wbd_114 (wbd_113 (wbd_112 (wbd_111 hD.1.1 _ f0 f1) _ t0 t01) _ (by omega) (by omega)) _ s0 s1) _) _) (fun j j0 j1 => ?_) (fun c => ?_) (by omega) (by omega) (fun c1 c2 e N Sx kK kA => ?_)
    · have q := tf.2.2.2 c
      have p := (tB.2.2 ((tf.1.2.2 c).1)).2.1
      exact ⟨by omega, q.2.1⟩
    · have nj : j.toNat ≠ r.toInt.toNat := by omega
      exact ⟨⟨rfl, rfl, congrArg Int32.toInt (sI_ne w2 111 j.toNat r.toInt.toNat fr nj), congrArg Int32.toInt (sI_ne w2 112 j.toNat r.toInt.toNat to nj), congrArg Int32.toInt (sI_ne w2 113 j.toNat r.toInt.toNat f nj), congrArg Int32.toInt (sI_ne w2 88 j.toNat r.toInt.toNat sz nj), congrArg Int32.toInt (sI_ne w2 89 j.toNat r.toInt.toNat dp nj)⟩, fun d => congrArg Int32.toInt (sI_ne w2 114 j.toNat f.toInt.toNat s (by omega))⟩
    · exact congrArg Int32.toInt (sI_ne w2 114 r.toInt.toNat f.toInt.toNat s (by omega))
    · have eI : yI (sI (sI (sI (sI (sI (sI w2 111 r.toInt.toNat fr) 112 r.toInt.toNat to) 113 r.toInt.toNat f) 114 f.toInt.toNat s) 88 r.toInt.toNat sz) 89 r.toInt.toNat dp) r.toInt = f.toInt := congrArg Int32.toInt (sI_same w2 113 r.toInt.toNat f)
      have eS : yS (sI (sI (sI (sI (sI (sI w2 111 r.toInt.toNat fr) 112 r.toInt.toNat to) 113 r.toInt.toNat f) 114 f.toInt.toNat s) 88 r.toInt.toNat sz) 89 r.toInt.toNat dp) r.toInt = sz.toInt := congrArg Int32.toInt (sI_same w2 88 r.toInt.toNat sz)
      have eD : yD (sI (sI (sI (sI (sI (sI w2 111 r.toInt.toNat fr) 112 r.toInt.toNat to) 113 r.toInt.toNat f) 114 f.toInt.toNat s) 88 r.toInt.toNat sz) 89 r.toInt.toNat dp) r.toInt = dp.toInt := congrArg Int32.toInt (sI_same w2 89 r.toInt.toNat dp)
      have eT : yT (sI (sI (sI (sI (sI (sI w2 111 r.toInt.toNat fr) 112 r.toInt.toNat to) 113 r.toInt.toNat f) 114 f.toInt.toNat s) 88 r.toInt.toNat sz) 89 r.toInt.toNat dp) r.toInt = to.toInt := congrArg Int32.toInt (sI_same w2 112 r.toInt.toNat to)
      have eX : yX (sI (sI (sI (sI (sI (sI w2 111 r.toInt.toNat fr) 112 r.toInt.toNat to) 113 r.toInt.toNat f) 114 f.toInt.toNat s) 88 r.toInt.toNat sz) 89 r.toInt.toNat dp) f.toInt = s.toInt := congrArg Int32.toInt (sI_same w2 114 f.toInt.toNat s)
      generalize (sI (sI (sI (sI (sI (sI w2 111 r.toInt.toNat fr) 112 r.toInt.toNat to) 113 r.toInt.toNat f) 114 f.toInt.toNat s) 88 r.toInt.toNat sz) 89 r.toInt.toNat dp) = w3 at *
      have q2 := hc c2
      have p1 := t1.2.2 c1
      have pf := tf.2.2.2 p1.1
      have of := tf.1.2.2 p1.1
      have oB := tB.2.2 of.1
      have Tf := (of.2.2.2 f.toInt pf.1 (by omega)).2.2.1
      have aF := p1.2.2.1 f.toInt gf.1 (by omega)
      have xF := (Sx f.toInt gf.1 (by omega)).1
      have wF := q2.2.2.2.2.1 f.toInt gf.1 (by omega)
      have hs1 := hs c1
      have S2f : yS w2 f.toInt = yS wA f.toInt := wF.2.2.2.2.2.2.1.trans aF.2.2.2.2.2.2.1
      have D2f : yD w2 f.toInt = yD wA f.toInt := wF.2.2.2.2.2.2.2.trans aF.2.2.2.2.2.2.2
      have K3f : yK w3 f.toInt = 35 := by
        have a := xF.1
        have b := aF.1
        omega
      have S3f : yS w3 f.toInt = yS w2 f.toInt := by
        have a := xF.2.2.2.2.2.1
        have b := wF.2.2.2.2.2.2.1
        omega
      have D3f : yD w3 f.toInt = yD w2 f.toInt := by
        have a := xF.2.2.2.2.2.2
        have b := wF.2.2.2.2.2.2.2
        omega
      have nwB := oB.2.1
      have nBA := of.2.1
      have nA1 := p1.2.1
      have hsec : 0 ≤ s.toInt → (ndC wA ≤ s.toInt ∧ s.toInt < r.toInt) ∧ yX w3 s.toInt = -1 ∧ yK w3 s.toInt = 35 ∧ yS w3 s.toInt = yS w2 s.toInt ∧ yD w3 s.toInt = yD w2 s.toInt ∧ (1 ≤ yS w2 s.toInt ∧ yS w2 s.toInt ≤ 501) ∧ 0 ≤ yD w2 s.toInt ∧ yD w2 s.toInt ≤ s.toInt + 1 := fun c => by
        cases hs1 with
        | inl z => omega
        | inr z =>
          have z1 := z.1
          have z2 := z.2.1
          have x := Sx s.toInt c (by omega)
          have y := q2.2.2.2.2.1 s.toInt c (by omega)
          have xs := x.1.2.2.2.2.2.1
          have xd := x.1.2.2.2.2.2.2
          have ys := y.2.2.2.2.2.2.1
          have yd := y.2.2.2.2.2.2.2
          have z5 := z.2.2.2.2.1
          have z6 := z.2.2.2.2.2
          refine ⟨⟨z1, by omega⟩, (x.2 (by omega)).trans z.2.2.1, x.1.1.trans z.2.2.2.1, by omega, by omega, ⟨by omega, by omega⟩, by omega, by omega⟩
      have H := hsz c1 c2 (by omega) (by omega) (fun c => (hsec c).2.2.2.2.2.1)
      have sneg : s.toInt < 0 → s.toInt = -1 := fun c => by omega
      have Pf : Pc w3 (ndC w) r.toInt f.toInt := ⟨⟨by omega, by omega⟩, by omega, fun c => by omega, fun _ => ⟨K3f, by omega⟩⟩
      have dpb : 0 ≤ dp.toInt ∧ dp.toInt ≤ r.toInt + 1 := by
        have d1 := hdp.1
        have d3 := hdp.2.2
        by_cases c : 0 ≤ s.toInt
        · have z := hsec c
          have z1 := z.1
          have z2 := z.2.2.2.2.2.2
          omega
        · omega
      refine ⟨fun q => by omega, ⟨by omega, fun _ => by omega⟩, ⟨by omega, by omega, by omega, by omega⟩, fun _ => Or.inr ⟨by omega, by omega⟩, fun _ => by omega, fun _ c5 => ?_, fun q => by omega⟩
      rw [eI, eS]
      rw [eS] at c5
      have H5 := H.2.2 c5
      by_cases c : 0 ≤ s.toInt
      · have z := hsec c
        have z1 := z.1
        have h5 := H5.2 c
        refine ⟨2, Or.inr ⟨gf.1, Pf, Or.inr ⟨by rw [eX]; exact c, ?_, ?_, ?_⟩⟩⟩
        · rw [eX]
          have zd := hdp.2.1 c
          have za := z.2.2.2.2.1
          have zs := z.2.2.2.2.2.1
          have zt := z.2.2.2.1
          exact ⟨⟨by omega, by omega⟩, by omega, fun q => by omega, fun _ => ⟨z.2.2.1, by omega⟩⟩
        · rw [eX]
          exact z.2.1
        · rw [eX]
          have zt := z.2.2.2.1
          omega
      · have h5 := H5.1 (by omega)
        exact ⟨1, Or.inr ⟨gf.1, Pf, by rw [eX]; exact sneg (by omega), by omega⟩⟩
  have eSf : ((sI (sI w2 111 r.toInt.toNat fr) 112 r.toInt.toNat to).1 88 f.toInt.toNat).toInt = yS w2 f.toInt := rfl
  have eSs : ((sI (sI w2 111 r.toInt.toNat fr) 112 r.toInt.toNat to).1 88 s.toInt.toNat).toInt = yS w2 s.toInt := rfl
  have K163 : ∀ y0 : Int32, (0 ≤ s.toInt → y0.toInt = yS w2 s.toInt) → (s.toInt < 0 → y0.toInt = 0) → q_Rd_readGuarded_163 B G P S f s r y0 ((1 : Int32) + ((sI (sI w2 111 r.toInt.toNat fr) 112 r.toInt.toNat to).1 88 f.toInt.toNat)) r (sI (sI (sI (sI w2 111 r.toInt.toNat fr) 112 r.toInt.toNat to) 113 r.toInt.toNat f) 114 f.toInt.toNat s) Q := fun y0 hy1 hy0 => by
    have M : ∀ sz : Int32, (wr w1 < 0 → wr w2 < 0 → 1 ≤ yS w2 f.toInt → yS w2 f.toInt ≤ 501 → (0 ≤ s.toInt → 1 ≤ yS w2 s.toInt ∧ yS w2 s.toInt ≤ 501) → 1 ≤ sz.toInt ∧ sz.toInt ≤ 501 ∧ (sz.toInt ≤ 500 → (s.toInt < 0 → 1 + yS w2 f.toInt ≤ sz.toInt) ∧ (0 ≤ s.toInt → 1 + yS w2 f.toInt + yS w2 s.toInt ≤ sz.toInt))) → ((0 ≤ r.toInt ∧ r.toInt < 301) ∧ ((0 ≤ f.toInt ∧ f.toInt < 301) ∧ ((0 ≤ s.toInt → ((0 ≤ s.toInt ∧ s.toInt < 301) ∧ (p_Ma_max (sI (sI (sI (sI (sI w2 111 r.toInt.toNat fr) 112 r.toInt.toNat to) 113 r.toInt.toNat f) 114 f.toInt.toNat s) 88 r.toInt.toNat sz) ((sI (sI (sI (sI w2 111 r.toInt.toNat fr) 112 r.toInt.toNat to) 113 r.toInt.toNat f) 114 f.toInt.toNat s).1 89 f.toInt.toNat) ((sI (sI (sI (sI w2 111 r.toInt.toNat fr) 112 r.toInt.toNat to) 113 r.toInt.toNat f) 114 f.toInt.toNat s).1 89 s.toInt.toNat) (fun r24 w24 => ((0 ≤ r.toInt ∧ r.toInt < 301) ∧ (Q r (sI w24 89 r.toInt.toNat r24))))))) ∧ (¬ (0 ≤ s.toInt) → (p_Ma_max (sI (sI (sI (sI (sI w2 111 r.toInt.toNat fr) 112 r.toInt.toNat to) 113 r.toInt.toNat f) 114 f.toInt.toNat s) 88 r.toInt.toNat sz) ((sI (sI (sI (sI w2 111 r.toInt.toNat fr) 112 r.toInt.toNat to) 113 r.toInt.toNat f) 114 f.toInt.toNat s).1 89 f.toInt.toNat) 0 (fun r26 w26 => ((0 ≤ r.toInt ∧ r.toInt < 301) ∧ (Q r (sI w26 89 r.toInt.toNat r26))))))))) := fun sz hsz => by
      have eDf : ((sI (sI (sI (sI w2 111 r.toInt.toNat fr) 112 r.toInt.toNat to) 113 r.toInt.toNat f) 114 f.toInt.toNat s).1 89 f.toInt.toNat).toInt = yD w2 f.toInt := rfl
      have eDs : ((sI (sI (sI (sI w2 111 r.toInt.toNat fr) 112 r.toInt.toNat to) 113 r.toInt.toNat f) 114 f.toInt.toNat s).1 89 s.toInt.toNat).toInt = yD w2 s.toInt := rfl
      refine ⟨g, gf, fun c => ⟨⟨c, by omega⟩, Eq.mpr (p_Ma_max.eq_1 _ _ _ _) ⟨fun d => ⟨g, hQ _ _ (W sz _ hsz ⟨by omega, fun _ => by omega, Or.inr (Or.inr ⟨c, eDs⟩)⟩)⟩, fun d => ⟨g, hQ _ _ (W sz _ hsz ⟨by omega, fun _ => by omega, Or.inl eDf⟩)⟩⟩⟩, fun c => Eq.mpr (p_Ma_max.eq_1 _ _ _ _) ⟨fun d => ⟨g, hQ _ _ (W sz _ hsz ⟨by rw [i_0] at d; rw [i_0]; omega, fun q => absurd q c, Or.inr (Or.inl i_0)⟩)⟩, fun d => ⟨g, hQ _ _ (W sz _ hsz ⟨by omega, fun q => absurd q c, Or.inl eDf⟩)⟩⟩⟩
    refine Eq.mpr (q_Rd_readGuarded_163.eq_1 _ _ _ _ _ _ _ _ _ _ _ _) (Eq.mpr (p_Ma_min.eq_1 _ _ _ _) ⟨fun c => M 501 (fun _ _ _ _ _ => ⟨by decide, by decide, fun q => absurd q (by decide)⟩), fun c => M _ (fun _ _ a1 a2 a3 => ?_)⟩)
    have s1' := ti_add2 i_1 eSf (by omega) (by omega)
    rw [(by decide : ((501 : Int32)).toInt = 501)] at c
    by_cases cs : 0 ≤ s.toInt
    · have h1 := hy1 cs
      have h3 := a3 cs
      have s2' := ti_add2 s1' (Eq.refl y0.toInt) (by omega) (by omega)
      omega
    · have h1 := hy0 (by omega)
      have s2' := ti_add2 s1' (Eq.refl y0.toInt) (by omega) (by omega)
      omega
  refine Eq.mpr (p_Rd_giveRange.eq_1 _ _ _ _ _) ⟨hD.1.2.2.1, g, hD.1.2.2.1, g, r2, g, r2, gf, gf, fun c => ⟨⟨c, by omega⟩, K163 _ (fun _ => eSs) (fun q => by omega)⟩, fun c => K163 _ (fun q => absurd q c) (fun _ => i_0)⟩
