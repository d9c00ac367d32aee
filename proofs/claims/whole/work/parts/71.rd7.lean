/-! the class's reader: par, guarded statements, all statements -/
def PrL (w v : MW) (f b al D i : Int32) : Prop := TG w v ∧ v.1 87 8 = w.1 87 8 ∧ (0 ≤ b.toInt ∧ b.toInt ≤ 300) ∧ (wr v < 0 → (1 ≤ al.toInt ∧ al.toInt ≤ 502 ∧ (1 ≤ i.toInt → al.toInt ≤ 501)) ∧ (0 ≤ D.toInt ∧ D.toInt ≤ ndC v) ∧ LsT w v 35 35 f.toInt b.toInt al.toInt D.toInt)
theorem x_p27 {B S : MW → (Int32 → MW → Prop) → Prop} {G : MW → Int32 → (Int32 → MW → Prop) → Prop} {P : MW → (Int32 → MW → Prop) → Prop} {w : MW} {f : Int32} {E : Int32 → Int32 → MW → Prop} {Q : Int32 → MW → Prop} (hw : RN w) (hB : RcS 35 35 (w.1 87 8).toInt B) (hE : ∀ (b al D i : Int32) (v : MW), PrL w v f b al D i → (wr v < 0 → 1 ≤ i.toInt) → E al D v) (n : Nat) : ∀ (b al D i : Int32) (v : MW), PrL w v f b al D i → 0 ≤ i.toInt → i.toInt ≤ 4001 → (4001 - i.toInt).toNat < n → q_Rd_readPar_27 B G P S f E Q n b al D i v := by
  induction n with
  | zero => intros; omega
  | succ n ih =>
    intro b al D i v h i0 i1 hm
    rw [q_Rd_readPar_27.eq_2]
    have hb := h.2.2.1
    have M56 : i.toInt ≤ 4000 → q_Rd_readPar_56 B G P S f b al D i v (fun (x27_2 : Int32) (x27_3 : Int32) (x27_4 : Int32) (x27_5 : Int32) (w : MW) => q_Rd_readPar_27 B G P S f E Q n x27_2 x27_3 x27_4 x27_5 w) E Q := fun ci => by
      have si := ti_add2 (Eq.refl i.toInt) i_1 (by omega) (by omega)
      refine Eq.mpr (q_Rd_readPar_56.eq_1 _ _ _ _ _ _ _ _ _ _ _ _ _) (hB v _ h.1.1 (congrArg Int32.toInt h.2.1) (fun r v1 t => ?_))
      have g : 0 ≤ r.toInt ∧ r.toInt < 301 := ⟨t.2.2.1.1, by have := t.2.2.1.2; omega⟩
      have r300 := t.2.2.1.2
      have eS : (v1.1 88 r.toInt.toNat).toInt = yS v1 r.toInt := rfl
      have tl : TG w (sI v1 114 b.toInt.toNat r) := tg_link hw h.1 hb.1 (fun c => ⟨(h.2.2.2 c).2.2.1, (h.2.2.2 c).2.2.2.1⟩) t.1 (by omega) r300
      have ol : (sI v1 114 b.toInt.toNat r).1 87 8 = w.1 87 8 := t.2.1.trans h.2.1
      have xl : NSx b.toInt (ndC v1) v1 (sI v1 114 b.toInt.toNat r) := nsx_link hb.1
      have yl : yX (sI v1 114 b.toInt.toNat r) b.toInt = r.toInt := by rw [yX_set hb.1 hb.1, if_pos rfl]
      have nl : ndC (sI v1 114 b.toInt.toNat r) = ndC v1 := rfl
      have wl : wr (sI v1 114 b.toInt.toNat r) = wr v1 := rfl
      have eD : ((sI v1 114 b.toInt.toNat r).1 89 r.toInt.toNat).toInt = yD v1 r.toInt := rfl
      refine ⟨t.1.1.1.2.2.1, ⟨hb.1, by omega⟩, g, ?_⟩
      generalize (sI v1 114 b.toInt.toNat r) = v2 at *
      have M : ∀ al' D' : Int32, (wr v1 < 0 → 1 ≤ yS v1 r.toInt → yS v1 r.toInt ≤ 501 → 1 ≤ al.toInt → al.toInt ≤ 502 → (1 ≤ al'.toInt ∧ al'.toInt ≤ 501 ∧ (al'.toInt ≤ 500 → al'.toInt = al.toInt + yS v1 r.toInt))) → (D.toInt ≤ D'.toInt ∧ yD v1 r.toInt ≤ D'.toInt ∧ (D'.toInt = D.toInt ∨ D'.toInt = yD v1 r.toInt)) → q_Rd_readPar_27 B G P S f E Q n r al' D' (i + (1 : Int32)) v2 := fun al' D' ha hD => by
        refine ih _ _ _ _ _ ⟨tl, ol, ⟨g.1, r300⟩, fun c => ?_⟩ (by omega) (by omega) (by omega)
        have c1 : wr v1 < 0 := by rw [← wl]; exact c
        have q := t.1.2.2 c1
        have z := h.2.2.2 q.1
        have T := (q.2.2.2 r.toInt (t.2.2.2 c1).1 (by have := (t.2.2.2 c1).2.1; omega)).2.2.1
        have a := ha c1 T.1 T.2.1 z.1.1 z.1.2.1
        have sr := (t.2.2.2 c1)
        exact ⟨⟨a.1, by omega, fun _ => a.2.1⟩, ⟨by omega, by omega⟩, ls_more hw h.1 z.2.2 t c1 nl xl yl hD.1 hD.2.1 (fun c5 => by have := a.2.2 c5; omega)⟩
      have N : ∀ al' : Int32, (wr v1 < 0 → 1 ≤ yS v1 r.toInt → yS v1 r.toInt ≤ 501 → 1 ≤ al.toInt → al.toInt ≤ 502 → (1 ≤ al'.toInt ∧ al'.toInt ≤ 501 ∧ (al'.toInt ≤ 500 → al'.toInt = al.toInt + yS v1 r.toInt))) → ((0 ≤ r.toInt ∧ r.toInt < 301) ∧ (p_Ma_max v2 D (v2.1 89 r.toInt.toNat) (fun r13 w13 => (q_Rd_readPar_27 B G P S f E Q n r al' r13 (i + (1 : Int32)) w13)))) := fun al' ha => ⟨g, Eq.mpr (p_Ma_max.eq_1 _ _ _ _) ⟨fun c => M al' _ ha ⟨by omega, by omega, by right; exact eD⟩, fun c => M al' _ ha ⟨by omega, by omega, by left; rfl⟩⟩⟩
      refine Eq.mpr (p_Ma_min.eq_1 _ _ _ _) ⟨fun c => N 501 (fun _ _ _ _ _ => ⟨by decide, by decide, fun q => absurd q (by decide)⟩), fun c => N _ (fun _ s0 s1 a0 a1 => ?_)⟩
      have s := ti_add2 (Eq.refl al.toInt) eS (by omega) (by omega)
      rw [(by decide : ((501 : Int32)).toInt = 501)] at c
      omega
    exact ⟨fun c => hE b al D i v h (fun _ => by omega), fun c => ⟨fun d => hE b al D i v h (fun q => by unfold wr at q; omega), fun _ => ⟨fun _ => M56 (by omega), fun c0 => ⟨fun _ => hE b al D i v h (fun _ => by omega), fun _ => M56 (by omega)⟩⟩⟩⟩
theorem x_rpar {B S : MW → (Int32 → MW → Prop) → Prop} {G : MW → Int32 → (Int32 → MW → Prop) → Prop} {P : MW → (Int32 → MW → Prop) → Prop} {w : MW} {Q : Int32 → MW → Prop} (hw : RN w) (hB : RcS 35 35 (w.1 87 8).toInt B) (hQ : ∀ r w', StO 11 26 w r w' → Q r w') : pb_Rd_readPar B G P S w Q := by
  refine Eq.mpr (pb_Rd_readPar.eq_1 _ _ _ _ _ _) (hB w _ hw rfl (fun r1 w1 t1 => ?_))
  have g1 : 0 ≤ r1.toInt ∧ r1.toInt < 301 := ⟨t1.2.2.1.1, by have := t1.2.2.1.2; omega⟩
  have eS : (w1.1 88 r1.toInt.toNat).toInt = yS w1 r1.toInt := rfl
  have eD : (w1.1 89 r1.toInt.toNat).toInt = yD w1 r1.toInt := rfl
  refine ⟨g1, g1, x_p27 hw hB (fun b al D i v h hi => ?_) FU r1 _ _ 0 w1 ⟨t1.1, t1.2.1, t1.2.2.1, fun c => ?_⟩ (by decide) (by decide) (fu_lt (by decide))⟩
  · refine k_node h.1.1.1 (fun r w2 hD r0 rr hc => ?_)
    have g : 0 ≤ r.toInt ∧ r.toInt < 301 := ⟨r0, by omega⟩
    refine ⟨hD.1.2.2.1, g, g, g, hQ _ _ (mk_fin hw h.1 h.2.1 hD r0 rr hc (FR.I (FR.I (FR.I (FR.refl lmk w2) rfl) rfl) rfl) (wbd_89 (wbd_88 (wbd_113 hD.1.1 _ (by omega) (by omega)) _) _) (fun j j0 j1 => ?_) (by decide) (by decide) (fun c1 c2 e N S kK kA sm => ?_))⟩
    · have nj : j.toNat ≠ r.toInt.toNat := by omega
      exact ⟨rfl, rfl, rfl, rfl, congrArg Int32.toInt (sI_ne w2 113 j.toNat r.toInt.toNat r1 nj), rfl, congrArg Int32.toInt (sI_ne w2 88 j.toNat r.toInt.toNat al nj), congrArg Int32.toInt (sI_ne w2 89 j.toNat r.toInt.toNat D nj)⟩
    · have eI : yI (sI (sI (sI w2 113 r.toInt.toNat r1) 88 r.toInt.toNat al) 89 r.toInt.toNat D) r.toInt = r1.toInt := congrArg Int32.toInt (sI_same w2 113 r.toInt.toNat r1)
      have eS3 : yS (sI (sI (sI w2 113 r.toInt.toNat r1) 88 r.toInt.toNat al) 89 r.toInt.toNat D) r.toInt = al.toInt := congrArg Int32.toInt (sI_same w2 88 r.toInt.toNat al)
      have eD3 : yD (sI (sI (sI w2 113 r.toInt.toNat r1) 88 r.toInt.toNat al) 89 r.toInt.toNat D) r.toInt = D.toInt := congrArg Int32.toInt (sI_same w2 89 r.toInt.toNat D)
      have eT : yT (sI (sI (sI w2 113 r.toInt.toNat r1) 88 r.toInt.toNat al) 89 r.toInt.toNat D) r.toInt = r.toInt := N.2.2.2.1
      have eF : yF (sI (sI (sI w2 113 r.toInt.toNat r1) 88 r.toInt.toNat al) 89 r.toInt.toNat D) r.toInt = r.toInt := N.2.2.1
      generalize (sI (sI (sI w2 113 r.toInt.toNat r1) 88 r.toInt.toNat al) 89 r.toInt.toNat D) = w3 at *
      have H := h.2.2.2 c1
      have i1 := hi c1
      have a5 := H.1.2.2 i1
      have k16 : yK w3 r.toInt = 16 := kK
      have n0 := nd_0 hw.1
      have L1 := H.2.2.1
      have L2 := H.2.2.2.1
      have L4 := H.2.2.2.2.2.1
      refine ⟨fun q => by omega, ⟨by omega, fun q => by omega⟩, ⟨by omega, by omega, by omega, by omega⟩, fun _ => Or.inr ⟨by omega, by omega⟩, fun q => by omega, fun _ c5 => ?_, fun q => by omega⟩
      rw [eI, eS3]
      rw [eS3] at c5
      exact ls_chain H.2.2 (by omega) (fun j j0 j1 => S j j0 (by omega)) (Or.inr ⟨by omega, rfl, rfl, by omega⟩) c5 n0
  · have q := t1.1.2.2 c
    have T := (q.2.2.2 r1.toInt (t1.2.2.2 c).1 (by have := (t1.2.2.2 c).2.1; omega)).2.2.1
    have s := ti_add2 i_1 eS (by omega) (by omega)
    have O := ls_one (al := ((1 : Int32) + (w1.1 88 r1.toInt.toNat)).toInt) hw (TG.refl hw) t1 c (fun c5 => by omega)
    exact ⟨⟨by omega, by omega, fun q => by rw [i_0] at q; omega⟩, ⟨O.2.2.1, O.2.2.2⟩, O.1⟩
