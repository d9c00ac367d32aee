/-! the class's end of a text: all that it does -/
theorem ct_plant2 {w : MW} {ls : List Ln} {Q : Int32 → MW → Prop} (hI : BND w) (e7 : w.2.2 7 0 = some 8) (e8 : w.2.2 0 8 = some 91) (hP : PWc w ls) (hG : GL ls) (hQ : ∀ r w', BND w' → FR ltP w w' → w'.2.2 7 0 = some 91 → ZrC w' → Q r w') : p_Bh_takePlant w Q := by
  have F0 : FR ltP w (sR w 7 0 (some 91)) := FR.R (FR.refl _ w) rfl
  have B0 : BND (sR w 7 0 (some 91)) := bnd_R hI
  have r0 : (sR w 7 0 (some 91)).2.2 7 0 = some 91 := sRs _ _ _ _
  refine Eq.mpr (p_Bh_takePlant.eq_1 _ _) ⟨e7, e8, Eq.mpr (p_St_renew_91.eq_1 _ _) ?_⟩
  generalize (sR w 7 0 (some 91)) = v0 at *
  refine fx_16 i_0 B0 (fun v1 B1 F1 z1 => fx_17 i_0 B1 (fun v2 B2 F2 z2 => fx_18 B2 (fun v3 B3 F3 z3 => fx_19 i_0 B3 (fun v4 B4 F4 z4 => fx_23 B4 (fun v5 B5 F5 z5 => fx_20 B5 (fun v6 B6 F6 z6 => fx_21 i_0 B6 (fun v7 B7 F7 z7 => ?_)))))))
  have F8 : FR ltP w v7 := ((((((F0.tr F1 rfl).tr F2 rfl).tr F3 rfl).tr F4 rfl).tr F5 rfl).tr F6 rfl).tr F7 rfl
  have r7 : v7.2.2 7 0 = some 91 := by rw [(F7 7 0 rfl).2.2, (F6 7 0 rfl).2.2, (F5 7 0 rfl).2.2, (F4 7 0 rfl).2.2, (F3 7 0 rfl).2.2, (F2 7 0 rfl).2.2, (F1 7 0 rfl).2.2]; exact r0
  have y1 : ∀ j, j < 20 → v7.1 16 j = 0 := fun j q => by rw [(F7 16 j rfl).1, (F6 16 j rfl).1, (F5 16 j rfl).1, (F4 16 j rfl).1, (F3 16 j rfl).1, (F2 16 j rfl).1]; exact z1 j q
  have y2 : ∀ j, j < 44 → v7.1 17 j = 0 := fun j q => by rw [(F7 17 j rfl).1, (F6 17 j rfl).1, (F5 17 j rfl).1, (F4 17 j rfl).1, (F3 17 j rfl).1]; exact z2 j q
  have y3 : ∀ j, j < 44 → v7.1 18 j = 0 := fun j q => by rw [(F7 18 j rfl).1, (F6 18 j rfl).1, (F5 18 j rfl).1, (F4 18 j rfl).1]; exact z3 j q
  have y4 : ∀ j, j < 44 → v7.1 19 j = 0 := fun j q => by rw [(F7 19 j rfl).1, (F6 19 j rfl).1, (F5 19 j rfl).1]; exact z4 j q
  have y5 : ∀ j, j < 264 → v7.1 23 j = -1 := fun j q => by rw [(F7 23 j rfl).1, (F6 23 j rfl).1]; exact z5 j q
  have y6 : ∀ j, j < 96 → v7.2.1 20 j = 0 := fun j q => by rw [(F7 20 j rfl).2.1]; exact z6 j q
  have F9 : FR ltP w (sI (sR v7 0 8 (some 8)) 26 1 0) := FR.I (FR.R F8 rfl) rfl
  have G9 : FR [(0, some 8), (26, some 1)] v7 (sI (sR v7 0 8 (some 8)) 26 1 0) := FR.I (FR.R (FR.refl _ v7) rfl) rfl
  have B9 : BND (sI (sR v7 0 8 (some 8)) 26 1 0) := wbd_26_1 (bnd_R B7) (by decide) (by decide)
  have c9 : (sI (sR v7 0 8 (some 8)) 26 1 0).1 26 1 = 0 := sI_same _ _ _ _
  have t9 : (sI (sR v7 0 8 (some 8)) 26 1 0).2.2 7 0 = some 91 := ((G9 7 0 rfl).2.2).trans r7
  refine Eq.mpr (p_Wa_forget.eq_1 _ _) ?_
  generalize (sI (sR v7 0 8 (some 8)) 26 1 0) = v9 at *
  refine fg_7 (i := 0) (fun va Ba Fa za => fx_37 Ba (fun vb Bb Fb zb => ?_)) FU v9 B9 (FR.refl _ v9) (by omega) (fun j q => absurd q (Nat.not_lt_zero j)) (fu_lt (by decide))
  have ta : vb.2.2 7 0 = some 91 := by rw [(Fb 7 0 rfl).2.2, (Fa 7 0 rfl).2.2]; exact t9
  have Fc : FR ltP w (sI vb 61 4 4) := FR.I ((F9.tr Fa rfl).tr Fb rfl) rfl
  have Gc : FR [(61, some 4)] vb (sI vb 61 4 4) := FR.I (FR.refl _ vb) rfl
  have Bc : BND (sI vb 61 4 4) := wbd_61_4 Bb (by decide) (by decide)
  have xc : (sI vb 61 4 4).1 61 4 = 4 := sI_same _ _ _ _
  refine ⟨ta, ?_⟩
  generalize (sI vb 61 4 4) = vc at *
  have Hc : FR [(0, some 8), (26, some 1), (36, none), (37, none), (61, some 4)] v7 vc := (((FR.tr (FR.refl _ v7) G9 rfl).tr Fa rfl).tr Fb rfl).tr Gc rfl
  refine wr_91 Bc (pwc_fr hP Fc rfl) hG (fun r vd Bd Fd Wd => ?_)
  have rl : 0 ≤ r.toInt ∧ r.toInt ≤ 640 := by
    have l1 := thg_len2 hG
    have l2 := pip_len hG (pip ls).length
    have l3 := hG.2.2.2
    rw [List.take_length] at l2
    have w1 := Wd.1
    unfold txt at w1
    rw [List.length_append] at w1
    omega
  have He : FR [(0, some 8), (0, some 12), (26, some 1), (36, none), (37, none), (61, some 4), (123, none)] v7 (sI vd 0 12 r) := FR.I ((FR.tr (FR.refl _ v7) Hc rfl).tr Fd rfl) rfl
  have Ge : FR [(123, none), (0, some 12)] vc (sI vd 0 12 r) := FR.I (FR.tr (FR.refl _ vc) Fd rfl) rfl
  have Fe : FR ltP w (sI vd 0 12 r) := FR.I (Fc.tr Fd rfl) rfl
  refine ⟨((Fd 7 0 rfl).2.2).trans (((Gc 7 0 rfl).2.2).trans ta), hQ _ _ (wbd_0_12 Bd rl.1 rl.2) Fe (((Ge 7 0 rfl).2.2).trans (((Gc 7 0 rfl).2.2).trans ta)) ⟨fun j q => ?_, fun j q => ?_, fun j q => ?_, fun j q => ?_, fun j q => ?_, fun j q => ?_, fun j q => ?_, ?_, fun j q => ?_, fun j q => ?_, ?_⟩⟩
  · rw [(He 16 j rfl).1]
    exact y1 j q
  · rw [(He 17 j rfl).1]
    exact y2 j q
  · rw [(He 18 j rfl).1]
    exact y3 j q
  · rw [(He 19 j rfl).1]
    exact y4 j q
  · rw [(He 23 j rfl).1]
    exact y5 j q
  · rw [(He 20 j rfl).2.1]
    exact y6 j q
  · rw [(He 21 j rfl).1]
    exact z7 j q
  · rw [(Ge 26 1 rfl).1, (Gc 26 1 rfl).1, (Fb 26 1 rfl).1, (Fa 26 1 rfl).1]
    exact c9
  · rw [(Ge 36 j rfl).1, (Gc 36 j rfl).1, (Fb 36 j rfl).1]
    exact za j q
  · rw [(Ge 37 j rfl).1, (Gc 37 j rfl).1]
    exact zb j q
  · rw [(Ge 61 4 rfl).1]
    exact xc
theorem pgc_f {l : Pl} {w w' : MW} {ns : List Nod} {nm : List Nm} {ks : List Nat} (h : PGc w ns nm ks) (ko : KOn ns) (hn : NmC w nm) (hF : FR l w w') (ho : off l [(88, none), (89, none), (108, some 1), (108, some 2), (108, some 10), (109, none), (110, none), (111, none), (112, none), (113, none), (114, none), (115, none), (116, none), (117, none), (118, none), (119, none)] = true) : PGc w' ns nm ks := by
  obtain ⟨h1, h2, h3, h4, h5, h6⟩ := h
  have t := pgv_f (ns := ns) (nm := nm) ⟨h2, ko, h5, hn, h1, h4⟩ hF (off_mono ho (by decide))
  exact ⟨t.2.2.2.2.1, t.1, by rw [(hF 108 2 (off_hit ho rfl)).1]; exact chc_k _ _ h3 (fun c _ => (hF 114 c (off_hit ho rfl)).1), t.2.2.2.2.2, h5, h6⟩
def lzn : Pl := [(1, some 1), (1, some 2)] ++ lrr ++ lrc9 ++ lrq ++ l_Ro_reads99_1
def lzp : Pl := [(1, some 1), (1, some 2)] ++ lrc9 ++ ltP
def lzq : Pl := [(1, some 1), (1, some 2), (99, some 1), (47, some 3), (0, some 9)] ++ lrq
def lzg : Pl := [(1, some 1), (1, some 2), (0, some 10)] ++ lrr ++ ltk8
/-- nothing was taken -/
def CzN (v v' : MW) : Prop := FR lzn v v'
/-- a plant was taken -/
def CzP (v v' : MW) (ls : List Ln) : Prop := FR lzp v v' ∧ PWd v' ls ∧ ZrC v' ∧ v'.2.2 7 0 = some 91 ∧ GL ls
/-- rows were taken -/
def CzQ (v v' : MW) (rs : List Rw) : Prop := FR lzq v v' ∧ RosC v' rs ∧ v'.1 99 1 = v.1 48 1 ∧ v'.2.2 47 3 = some 99
/-- a program was taken -/
def CzG (v v' : MW) (ns : List Nod) (nm : List Nm) (ks : List Nat) : Prop := ∃ x, FR lzg v x ∧ BND x ∧ p_Wa_closeAll x (fun y => y = v') ∧ FR l_Wa_closeAll x v' ∧ x.2.2 61 3 = some 108 ∧ (x.1 61 4).toInt = 4 ∧ (x.1 77 0).toInt = -1 ∧ (1 ≤ (x.1 61 5).toInt ∧ (x.1 61 5).toInt ≤ 501) ∧ LyC ns x ks 1 (x.1 78 0).toInt (x.1 61 5).toInt.toNat ∧ NmC x nm ∧ ((x.1 108 2).toInt < 0 ↔ ks = []) ∧ PGc x ns nm ks ∧ N5 x
def EZs (w : MW) (y : Int32) (f : Int → Int) (n : Int) (w' : MW) : Prop := (y.toInt = 0 ∧ ∃ (r' : Int) (ls : List Ln), (∃ k, PlR f n k 0 [] r' ls) ∧ ((0 ≤ r' ∧ CzN w w') ∨ (r' = -1 ∧ CzP w w' ls))) ∨ (y.toInt = 1 ∧ ((∃ rs, (∃ k, RdQ f n k [] 0 (-1) rs) ∧ CzQ w w' rs) ∨ (∃ q : Int, 0 ≤ q ∧ (∃ k, RdQ f n k [] 0 q []) ∧ CzN w w'))) ∨ (y.toInt = 2 ∧ ((∃ e : Int, 0 ≤ e ∧ PGM f n (false, e, 0, [], [], []) ∧ CzN w w') ∨ (∃ (m : Int) (ns : List Nod) (nm : List Nm) (ks : List Nat), PGM f n (true, 0, m, ns, nm, ks) ∧ CzG w w' ns nm ks)))
def RdZ (f : Int → Int) (n : Int) (r : Int32) (w' : MW) : Prop := (0 ≤ r.toInt ∧ PGM f n (false, r.toInt, 0, [], [], [])) ∨ (r.toInt = -1 ∧ ∃ (m : Int) (ns : List Nod) (nm : List Nm) (ks : List Nat), PGM f n (true, 0, m, ns, nm, ks) ∧ NmC w' nm ∧ ((w'.1 108 2).toInt < 0 ↔ ks = []) ∧ PGc w' ns nm ks)
theorem cz_end58 {d : Nat} {w : MW} {y f s : Int32} {Q : Int32 → MW → Prop} (h : CI w) (hK : KWc w) (hf : ¬ f.toInt = 0 → 0 ≤ y.toInt ∧ y.toInt ≤ 2) (s0 : 0 ≤ s.toInt) (s1 : s.toInt ≤ 4000) (hN : (f.toInt = 0 ∨ ¬ txO (CTx w s.toInt) s.toInt) → ∀ r w', CzN w w' → Q r w') (hY : ¬ f.toInt = 0 → txO (CTx w s.toInt) s.toInt → ∀ r w', EZs w y (CTx w s.toInt) s.toInt w' → Q r w') : q2_Bh_end_58 d y f s w Q := by
  have F1 : FR [(1, some 2)] w (sI w 1 2 s) := FR.I (FR.refl _ w) rfl
  have h1 : CI (sI w 1 2 s) := ci_fr (l := [(1, some 2)]) h F1 (wbd_1_2 h.1 s0 s1) rfl
  have K1 : KWc (sI w 1 2 s) := fun i k hk => by rw [(F1 90 i rfl).2.1]; exact hK i k hk
  have en : (sI w 1 2 s).1 1 2 = s := sI_same _ _ _ _
  have ec : cf (sI w 1 2 s) = CTx w s.toInt := by
    funext p
    unfold cf CTx
    rw [sI_same, sI_oth _ _ _ _ _ _ (by decide)]
  refine Eq.mpr (q2_Bh_end_58.eq_1 _ _ _ _ _ _) ?_
  generalize (sI w 1 2 s) = w1 at *
  have S1 : CzN w w1 := (FR.refl lzn w).tr F1 (by decide +kernel)
  refine ⟨fun c => hN (Or.inl c) _ w1 S1, fun c => it_x h1.1 (fun ok => ?_) (fun no => ⟨fun q => absurd i_0 q, fun _ => hN (Or.inr (by rw [ec, en] at no; exact no)) _ w1 S1⟩)⟩
  rw [ec, en] at ok
  have yy := hf c
  have x := h1.2.2.2.2
  refine ⟨fun _ => ⟨fun c0 => ⟨fun c1 => ⟨x.2.2.2.2, ?_⟩, fun c1 => ⟨x.2.2.2.1, rq_read h1.1 (fun r3 w3 r' rs' B3 F3 k q => ?_)⟩⟩, fun c0 => ⟨x.2.2.1, rd_read h1.1 (fun r3 w3 ls B3 F3 r4 k P3 => ?_)⟩⟩, fun q => absurd (show ¬ (1 : Int32).toInt = 0 by decide) q⟩
  · have y2 : y.toInt = 2 := by omega
    refine tc_mono (ri_and (dm_Rd_read_1_108 (d := d + 0) (w := w1) (Q := RdZ (CTx w s.toInt) s.toInt) (c_read2 h1.1 K1 ec (by rw [en]) s0 (fun y w' e a b e0 => Or.inl ⟨by omega, by rw [b]; exact a⟩) (fun y w' m ns nm ks a b e0 m0 nn oo pp => Or.inr ⟨b, m, ns, nm, ks, a, nn, oo, pp⟩))) (ri_and (dm_Rd_read_1_108 (d := d + 0) (w := w1) (Q := fun r w' => CI w' ∧ FR lrr w1 w' ∧ (r.toInt < 0 → PrG w')) (ci_readN h1 (fun r w' a b e => ⟨a, b, e⟩))) (dm_Rd_read_1_108 (d := d + 0) (w := w1) (Q := fun r w' => N5 w') (n_read h1.1 x.1 (fun r w' n => n))))) (fun v w9 hv => ?_)
    obtain ⟨r9, ev, hp, ⟨hc, F9, hg⟩, n5⟩ := hv
    have S9 : CzN w w9 := S1.tr F9 (by decide +kernel)
    refine ⟨r9, ev, Eq.mpr (q_Bh_end_129.eq_1 _ _ _ _) ⟨fun n9 => ⟨fun _ => ⟨fun _ => ?_, fun z => absurd c1 z⟩, fun z => absurd c0 z⟩, fun n9 => ?_⟩⟩
    · rcases hp with ⟨p0, _⟩ | ⟨e9, m, ns, nm, ks, pg, nn, oo, pp⟩
      · omega
      · have ko := pgm_ko pg
        have zc := hc.2.1
        have xc := hc.2.2.2.2
        refine Eq.mpr (p_Bh_takeProgram.eq_1 _ _) ⟨zc.2.2.2.2.2.2.2.1, xc.2.2.2.2, k_take9 hc.1 (hg n9) (ns := ns) (nm := nm) (ks := ks) ⟨pp.2.1, ko.1, pp.2.2.2.2.1, nn, pp.1, pp.2.2.2.1⟩ pp.2.2.1 (fun c hc => owb_a (ko.2.2.1 c hc)) (fun v3 B3 F3 r3 s4 q7 q5 L => ?_)⟩
        have G1 : FR [(0, some 10)] v3 (sR v3 0 10 (some 62)) := FR.R (FR.refl _ v3) rfl
        have B1 : BND (sR v3 0 10 (some 62)) := bnd_R B3
        have FX : FR lzg w (sR v3 0 10 (some 62)) := (((((FR.refl lzg w).tr F1 (by decide +kernel)).tr F9 (by decide +kernel)).tr F3 (by decide +kernel)).tr G1 (by decide +kernel))
        have ex5 : (sR v3 0 10 (some 62)).1 = v3.1 := rfl
        have ex6 : (sR v3 0 10 (some 62)).2.1 = v3.2.1 := rfl
        have F39 : FR ((0, some 10) :: ltk8) w9 (sR v3 0 10 (some 62)) := ((FR.refl _ w9).tr F3 rfl).tr G1 rfl
        have r3' : (sR v3 0 10 (some 62)).2.2 61 3 = some 108 := ((G1 61 3 rfl).2.2).trans r3
        generalize (sR v3 0 10 (some 62)) = x1 at *
        have hh := h_Wa_closeAll (Q := fun u => BND u ∧ FR l_Wa_closeAll x1 u) B1 (PL_fr F39 rfl zc.2.2.2.2.2.2.1) (WO_fr F39 rfl hc.2.2.1) (((F39 7 0 rfl).2.2).trans zc.2.2.2.2.2.2.2.2.1) (fun u hB Fu hW => ⟨hB, Fu⟩)
        obtain ⟨u, ⟨Bu, Fu⟩, eu⟩ := ex_p_Wa_closeAll hh
        refine al_p_Wa_closeAll (I := Unit) () (fun _ => eu) (fun z hz => ?_)
        rw [hz ()]
        refine ⟨((Fu 61 3 rfl).2.2).trans r3', hY c ok _ u (Or.inr (Or.inr ⟨y2, Or.inr ⟨m, ns, nm, ks, pg, x1, FX, B1, eu, Fu, r3', by rw [ex5]; exact s4, by rw [ex5]; exact q7, by rw [ex5]; exact q5, ?_, nmc_fr nn F39 rfl, by rw [(F39 108 2 rfl).1]; exact oo, pgc_f pp ko.1 nn F39 rfl, n5_f n5 F39 rfl⟩⟩))⟩
        obtain ⟨kk, LL⟩ := L
        refine ⟨kk, ?_⟩
        rw [ex5]
        exact LL
    · rcases hp with ⟨p0, pg⟩ | ⟨e9, _⟩
      · exact hY c ok _ w9 (Or.inr (Or.inr ⟨y2, Or.inl ⟨_, p0, pg, S9⟩⟩))
      · omega
  · have y1 := Classical.not_not.mp c1
    rw [ec, en] at k
    have S3 : CzN w w3 := S1.tr F3 (by decide +kernel)
    have e47 : w3.2.2 47 3 = some 48 := ((F3 47 3 rfl).2.2).trans h1.2.1.2.2.2.2.2.2.2.2.2
    have e09 : w3.2.2 0 9 = some 99 := ((F3 0 9 rfl).2.2).trans x.2.2.2.1
    refine Eq.mpr (q_Bh_end_129.eq_1 _ _ _ _) ⟨fun d => ⟨fun _ => ⟨fun z => absurd y1 z, fun _ => ?_⟩, fun z => absurd c0 z⟩, fun d => ?_⟩
    · rcases q with ⟨er, _, R3⟩ | ⟨_, _⟩
      · have F4 : FR [(99, some 1), (47, some 3), (0, some 9)] w3 (sR (sR (sI w3 99 1 (w3.1 48 1)) 47 3 (some 99)) 0 9 (some 48)) := FR.R (FR.R (FR.I (FR.refl _ w3) rfl) rfl) rfl
        refine Eq.mpr (p_Bh_takeRows.eq_1 _ _) ⟨e47, e09, e09, hY c ok _ _ (Or.inr (Or.inl ⟨y1, Or.inl ⟨rs', by rw [er] at k; exact k, (((FR.refl lzq w).tr F1 (by decide +kernel)).tr F3 (by decide +kernel)).tr F4 (by decide +kernel), roc_fr R3 F4 rfl, ?_, ?_⟩⟩))⟩
        · show (sI w3 99 1 (w3.1 48 1)).1 99 1 = w.1 48 1
          rw [sI_same, (F3 48 1 rfl).1]
          exact (F1 48 1 rfl).1
        · have g : FR [(0, some 9)] (sR (sI w3 99 1 (w3.1 48 1)) 47 3 (some 99)) (sR (sR (sI w3 99 1 (w3.1 48 1)) 47 3 (some 99)) 0 9 (some 48)) := FR.R (FR.refl _ _) rfl
          rw [(g 47 3 rfl).2.2]
          exact sRs _ _ _ _
      · omega
    · rcases q with ⟨_, _, _⟩ | ⟨r0, e3⟩
      · omega
      · obtain ⟨kk, hk⟩ := k
        have en := rdq_nil _ _ _ _ _ hk r0
        rw [en] at hk
        exact hY c ok _ _ (Or.inr (Or.inl ⟨y1, Or.inr ⟨r', r0, ⟨kk, hk⟩, S3⟩⟩))
  · rw [ec, en] at k
    have y0 := Classical.not_not.mp c0
    have k2 := k
    obtain ⟨kk, hk⟩ := k2
    have rr := plr_r kk 0 [] _ _ (by decide) hk
    have S3 : CzN w w3 := S1.tr F3 (by decide +kernel)
    have e7 : w3.2.2 7 0 = some 8 := ((F3 7 0 rfl).2.2).trans h1.2.1.2.2.2.2.2.2.2.2.1
    have gl := plr_gl kk 0 [] _ _ hk gl_nil
    refine Eq.mpr (q_Bh_end_129.eq_1 _ _ _ _) ⟨fun d => ⟨fun q => absurd y0 q, fun _ => ct_plant2 B3 e7 (((F3 0 8 rfl).2.2).trans x.2.2.1) (P3 d).1 gl (fun r w' B' F' r7 Z => hY c ok r w' (Or.inl ⟨y0, r3.toInt, ls, k, Or.inr ⟨by omega, ((((FR.refl lzp w).tr F1 (by decide +kernel)).tr F3 (by decide +kernel)).tr F' (by decide +kernel)), pwd_fr (P3 d) F' rfl, Z, r7, gl⟩⟩))⟩, fun d => ?_⟩
    exact hY c ok _ w3 (Or.inl ⟨y0, r3.toInt, ls, k, Or.inl ⟨by omega, S3⟩⟩)
