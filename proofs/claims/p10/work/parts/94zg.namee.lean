/-! end of a text: what becomes of the program's names -/
def sameN (w w' : MW) : Prop := (∀ k j : Nat, 62 ≤ k → k ≤ 76 → w'.1 k j = w.1 k j) ∧ w'.2.2 61 3 = w.2.2 61 3
def lnq : Pl := [(61, some 3), (62, none), (63, none), (64, none), (65, none), (66, none), (67, none), (68, none), (69, none), (70, none), (71, none), (72, none), (73, none), (74, none), (75, none), (76, none)]
theorem snq_fr {l : Pl} {w w' : MW} (hF : FR l w w') (ho : off l lnq = true) : sameN w w' := by
  refine ⟨fun k j h1 h2 => ?_, (hF 61 3 (off_hit ho rfl)).2.2⟩
  have : k = 62 ∨ k = 63 ∨ k = 64 ∨ k = 65 ∨ k = 66 ∨ k = 67 ∨ k = 68 ∨ k = 69 ∨ k = 70 ∨ k = 71 ∨ k = 72 ∨ k = 73 ∨ k = 74 ∨ k = 75 ∨ k = 76 := by omega
  rcases this with rfl | rfl | rfl | rfl | rfl | rfl | rfl | rfl | rfl | rfl | rfl | rfl | rfl | rfl | rfl <;> exact (hF _ j (off_hit ho rfl)).1
theorem sn_tr {w w1 w2 : MW} (a : sameN w w1) (b : sameN w1 w2) : sameN w w2 := ⟨fun k j h1 h2 => (b.1 k j h1 h2).trans (a.1 k j h1 h2), b.2.trans a.2⟩
def RdN (f : Int → Int) (n : Int) (r : Int32) (w' : MW) : Prop := (0 ≤ r.toInt ∧ PGM f n (false, r.toInt, 0, [], [], [])) ∨ (r.toInt = -1 ∧ ∃ (m : Int) (ns : List Nod) (nm : List Nm) (ks : List Nat), PGM f n (true, 0, m, ns, nm, ks) ∧ NmC w' nm ∧ ((w'.1 108 2).toInt < 0 ↔ ks = []))
def EC3 (w : MW) (f : Int → Int) (n : Int) (w' : MW) : Prop := (∃ e : Int, 0 ≤ e ∧ PGM f n (false, e, 0, [], [], []) ∧ sameN w w') ∨ (∃ (m : Int) (ns : List Nod) (nm : List Nm) (ks : List Nat), PGM f n (true, 0, m, ns, nm, ks) ∧ NmC w' nm ∧ ((w'.1 108 2).toInt < 0 ↔ ks = []) ∧ w'.2.2 61 3 = some 108)
theorem c3_end58 {d : Nat} {w : MW} {y f s : Int32} {Q : Int32 → MW → Prop} (h : CI w) (hK : KWc w) (hf : ¬ f.toInt = 0 → 0 ≤ y.toInt ∧ y.toInt ≤ 2) (s0 : 0 ≤ s.toInt) (s1 : s.toInt ≤ 4000) (hN : (f.toInt = 0 ∨ ¬ txO (CTx w s.toInt) s.toInt ∨ ¬ y.toInt = 2) → ∀ r w', sameN w w' → Q r w') (hY : ¬ f.toInt = 0 → txO (CTx w s.toInt) s.toInt → y.toInt = 2 → ∀ r w', EC3 w (CTx w s.toInt) s.toInt w' → Q r w') : q2_Bh_end_58 d y f s w Q := by
  have F1 : FR [(1, some 2)] w (sI w 1 2 s) := FR.I (FR.refl _ w) rfl
  have h1 : CI (sI w 1 2 s) := ci_fr (l := [(1, some 2)]) h F1 (wbd_1_2 h.1 s0 s1) rfl
  have K1 : KWc (sI w 1 2 s) := fun i k hk => by rw [(F1 90 i rfl).2.1]; exact hK i k hk
  have en : (sI w 1 2 s).1 1 2 = s := sI_same _ _ _ _
  have ec : cf (sI w 1 2 s) = CTx w s.toInt := by
    funext p
    unfold cf CTx
    rw [sI_same, sI_oth _ _ _ _ _ _ (by decide)]
  refine Eq.mpr (q2_Bh_end_58.eq_1 _ _ _ _ _ _) ?_
  generalize (sI w 1 2 s) = w1 at *
  have S1 : sameN w w1 := snq_fr F1 rfl
  refine ⟨fun c => hN (Or.inl c) _ w1 S1, fun c => it_x h1.1 (fun ok => ?_) (fun no => ⟨fun q => absurd i_0 q, fun _ => hN (Or.inr (Or.inl (by rw [ec, en] at no; exact no))) _ w1 S1⟩)⟩
  rw [ec, en] at ok
  have yy := hf c
  have x := h1.2.2.2.2
  refine ⟨fun _ => ⟨fun c0 => ⟨fun c1 => ⟨x.2.2.2.2, ?_⟩, fun c1 => ⟨x.2.2.2.1, ci_readQ h1 (fun r3 w3 h3 F3 => ?_)⟩⟩, fun c0 => ⟨x.2.2.1, ci_readP h1 (fun r3 w3 h3 F3 hp => ?_)⟩⟩, fun q => absurd (show ¬ (1 : Int32).toInt = 0 by decide) q⟩
  · have y2 : y.toInt = 2 := by omega
    refine tc_mono (ri_and (dm_Rd_read_1_108 (d := d + 0) (w := w1) (Q := RdN (CTx w s.toInt) s.toInt) (c_read h1.1 K1 ec (by rw [en]) s0 (fun y w' e a b e0 => Or.inl ⟨by omega, by rw [b]; exact a⟩) (fun y w' m ns nm ks a b e0 m0 nn oo => Or.inr ⟨b, m, ns, nm, ks, a, nn, oo⟩))) (dm_Rd_read_1_108 (d := d + 0) (w := w1) (Q := fun r w' => CI w' ∧ FR lrr w1 w' ∧ (r.toInt < 0 → PrG w')) (ci_readN h1 (fun r w' a b e => ⟨a, b, e⟩)))) (fun v w9 hv => ?_)
    obtain ⟨r9, ev, hp, hc, F9, hg⟩ := hv
    have S9 : sameN w w9 := sn_tr S1 (snq_fr F9 rfl)
    refine ⟨r9, ev, Eq.mpr (q_Bh_end_129.eq_1 _ _ _ _) ⟨fun n9 => ⟨fun _ => ⟨fun _ => ?_, fun z => absurd c1 z⟩, fun z => absurd c0 z⟩, fun n9 => ?_⟩⟩
    · rcases hp with ⟨p0, _⟩ | ⟨e9, m, ns, nm, ks, pg, nn, oo⟩
      · omega
      · exact ct_prog hc (hg n9) (fun w' F' r61 => hY c ok y2 _ w' (Or.inr ⟨m, ns, nm, ks, pg, nmc_fr nn F' rfl, by rw [(F' 108 2 rfl).1]; exact oo, r61⟩))
    · rcases hp with ⟨p0, pg⟩ | ⟨e9, _⟩
      · exact hY c ok y2 _ w9 (Or.inl ⟨_, p0, pg, S9⟩)
      · omega
  · have y1 := Classical.not_not.mp c1
    have S3 : sameN w w3 := sn_tr S1 (snq_fr F3 rfl)
    exact Eq.mpr (q_Bh_end_129.eq_1 _ _ _ _) ⟨fun _ => ⟨fun _ => ⟨fun q => absurd y1 q, fun _ => ci_takeRows h3 (fun r w' h' hF => hN (Or.inr (Or.inr (by omega))) r w' (sn_tr S3 (snq_fr hF rfl)))⟩, fun q => absurd c0 q⟩, fun _ => hN (Or.inr (Or.inr (by omega))) _ w3 S3⟩
  · have y0 := Classical.not_not.mp c0
    have S3 : sameN w w3 := sn_tr S1 (snq_fr F3 rfl)
    exact Eq.mpr (q_Bh_end_129.eq_1 _ _ _ _) ⟨fun n3 => ⟨fun q => absurd y0 q, fun _ => ci_takePlant h3 (hp n3).1 (hp n3).2.1 (hp n3).2.2 (fun r w' h' hF => hN (Or.inr (Or.inr (by omega))) r w' (sn_tr S3 (snq_fr hF rfl)))⟩, fun _ => hN (Or.inr (Or.inr (by omega))) _ w3 S3⟩
def ECn (w : MW) (a b : Int32) (w' : MW) : Prop := (¬ ((fitE (w.1 1 1).toInt a b ∧ txO (CTx w b.toInt) b.toInt) ∧ a.toInt = 2) ∧ sameN w w') ∨ (((fitE (w.1 1 1).toInt a b ∧ txO (CTx w b.toInt) b.toInt) ∧ a.toInt = 2) ∧ EC3 w (CTx w b.toInt) b.toInt w')
theorem c3_end {d : Nat} {w : MW} {a b : Int32} {Q : Int32 → MW → Prop} (h : CI w) (hK : KWc w) (hQ : ∀ r w', ECn w a b w' → Q r w') : p2_Bh_end d w a b Q := by
  have F0 : FR [(1, some 1)] w (sI w 1 1 0) := FR.I (FR.refl _ w) rfl
  have h1 : CI (sI w 1 1 0) := ci_fr (l := [(1, some 1)]) h F0 (wbd_1_1 h.1 (by decide) (by decide)) rfl
  have K1 : KWc (sI w 1 1 0) := fun i k hk => by rw [(F0 90 i rfl).2.1]; exact hK i k hk
  have S0 : sameN w (sI w 1 1 0) := snq_fr F0 rfl
  have eT : ∀ n, CTx (sI w 1 1 0) n = CTx w n := fun n => rfl
  have no : ¬ fitE (w.1 1 1).toInt a b → q2_Bh_end_36 d a b 0 w Q := fun nf => Eq.mpr (q2_Bh_end_36.eq_1 _ _ _ _ _ _) ⟨fun _ => c3_end58 h1 K1 (fun q => absurd i_0 q) (by decide) (by decide) (fun _ r w' q => hQ _ w' (Or.inl ⟨fun z => nf z.1.1, sn_tr S0 q⟩)) (fun q => absurd i_0 q), fun q => absurd i_0 q⟩
  refine Eq.mpr (p2_Bh_end.eq_1 _ _ _ _ _) ⟨fun c => no (fun z => ?_), fun a0 => ⟨fun c => no (fun z => ?_), fun a2 => ⟨fun c => no (fun z => ?_), fun b0 => ⟨fun c => no (fun z => ?_), fun b4 => ⟨fun c => no (fun z => ?_), fun bn => ?_⟩⟩⟩⟩⟩
  · have := z.1
    omega
  · have := z.2.1
    omega
  · have := z.2.2.1
    omega
  · have := z.2.2.2.1
    omega
  · have := z.2.2.2.2
    omega
  · have ft : fitE (w.1 1 1).toInt a b := ⟨by omega, by omega, by omega, by omega, by omega⟩
    refine Eq.mpr (q2_Bh_end_36.eq_1 _ _ _ _ _ _) ⟨fun q => absurd q (by decide), fun _ => c3_end58 h1 K1 (fun _ => ⟨by omega, by omega⟩) (by omega) (by omega) (fun q r w' st => ?_) (fun _ ok ya r w' q => ?_)⟩
    · rw [eT] at q
      refine hQ _ w' (Or.inl ⟨fun z => ?_, sn_tr S0 st⟩)
      rcases q with q | q | q
      · exact absurd q (by decide)
      · exact q z.1.2
      · exact q z.2
    · rw [eT] at ok q
      refine hQ r w' (Or.inr ⟨⟨⟨ft, ok⟩, ya⟩, ?_⟩)
      rcases q with ⟨e, e0, pg, s⟩ | q
      · exact Or.inl ⟨e, e0, pg, sn_tr S0 s⟩
      · exact Or.inr q
/-- the reference -/
def lnm2 : Pl := [(129, some 12), (129, some 31), (129, some 32), (131, none), (138, none), (141, none)]
def sameM (w w' : MW) : Prop := ∀ k j : Nat, hit lnm2 k j = true → w'.1 k j = w.1 k j
theorem sm_fr {l : Pl} {w w' : MW} (hF : FR l w w') (ho : off l lnm2 = true) : sameM w w' := fun k j hk => (hF k j (off_hit ho hk)).1
theorem sm_tr {w w1 w2 : MW} (a : sameM w w1) (b : sameM w1 w2) : sameM w w2 := fun k j hk => (b k j hk).trans (a k j hk)
theorem sm_hf {w w' : MW} (s : sameM w w') : HFj w w' := ⟨s 129 12 rfl, s 129 31 rfl, s 129 32 rfl, fun j _ _ => s 131 j rfl, fun j _ _ => s 138 j rfl, fun j _ _ => s 141 j rfl⟩
theorem hfj_s {w w1 w' : MW} (F : sameM w w1) (k : HFj w1 w') : HFj w w' := by
  have e := F 129 12 rfl
  refine ⟨k.1.trans e, k.2.1.trans (F 129 31 rfl), k.2.2.1.trans (F 129 32 rfl), fun j a b => ?_, fun j a b => ?_, fun j a b => ?_⟩
  · exact (k.2.2.2.1 j (by rw [e]; exact a) (by rw [e]; exact b)).trans (F 131 j rfl)
  · exact (k.2.2.2.2.1 j (by rw [e]; exact a) (by rw [e]; exact b)).trans (F 138 j rfl)
  · exact (k.2.2.2.2.2 j (by rw [e]; exact a) (by rw [e]; exact b)).trans (F 141 j rfl)
theorem rlm_s {w w' : MW} {nm : List Nm} (h : RlM w nm) (s : sameM w w') : RlM w' nm := ⟨by rw [s 129 32 rfl]; exact h.1, h.2.1, fun i x hx => by rw [s 129 12 rfl, s 141 _ rfl]; exact h.2.2 i x hx⟩
theorem tpw_s {w w' : MW} {ts ks : List Nat} (h : TpW w ts ks) (s : sameM w w') : TpW w' ts ks :=
  ⟨by rw [s 129 31 rfl]; exact h.1, fun k c hk => by rw [s 129 12 rfl, s 138 _ rfl]; exact h.2.1 k c hk, fun t ht => by rw [s 129 12 rfl, s 131 _ rfl]; exact h.2.2.1 t ht, fun t ht => by rw [s 129 12 rfl, s 131 _ rfl]; exact h.2.2.2 t ht⟩
def EM3 (w : MW) (f : Int → Int) (n : Int) (w' : MW) : Prop := (∃ x : Int32, PGM f n (false, x.toInt, 0, [], [], []) ∧ (0 ≤ x.toInt → HFj w w')) ∨ (∃ (m : Int) (ns : List Nod) (nm : List Nm) (ks ts : List Nat), PGM f n (true, 0, m, ns, nm, ks) ∧ RlM w' nm ∧ TpW w' ts ks)
def EMn (w : MW) (f : Int → Int) (a b : Int32) (w' : MW) : Prop := (¬ ((fitE (w.1 127 1).toInt a b ∧ txO (MTx w b.toInt) b.toInt) ∧ a.toInt = 2) ∧ sameM w w') ∨ (((fitE (w.1 127 1).toInt a b ∧ txO (MTx w b.toInt) b.toInt) ∧ a.toInt = 2) ∧ EM3 w f b.toInt w')
theorem m3_end {d : Nat} {w : MW} {a b : Int32} {f : Int → Int} {Q : Int32 → MW → Prop} (h : MdJ w) (hs : (w.1 129 1).toInt = 0) (hf : (fitE (w.1 127 1).toInt a b ∧ txO (MTx w b.toInt) b.toInt) → (∀ p : Nat, (p : Int) < b.toInt → (w.1 128 p).toInt = f p) ∧ ∀ p : Int, ¬ (0 ≤ p ∧ p < b.toInt) → f p = -1) (hQ : ∀ r w', EMn w f a b w' → Q r w') : p2_Mo_end d w a b Q := by
  have F0 : FR [(127, some 1)] w (sI w 127 1 0) := FR.I (FR.refl _ w) rfl
  have h1 : MdJ (sI w 127 1 0) := MdJ_fr (l := [(127, some 1)]) F0 (wbd_127_1 h.1.1 (by decide) (by decide)) rfl h
  have hs1 : ((sI w 127 1 0).1 129 1).toInt = 0 := by rw [(F0 129 1 rfl).1]; exact hs
  have S0 : sameM w (sI w 127 1 0) := sm_fr F0 rfl
  have N : ¬ ((fitE (w.1 127 1).toInt a b ∧ txO (MTx w b.toInt) b.toInt) ∧ a.toInt = 2) → ∀ r w', sameM w w' → Q r w' := fun k r w' s => hQ r w' (Or.inl ⟨k, s⟩)
  have K0 : ¬ fitE (w.1 127 1).toInt a b → q2_Mo_end_33 d a b 0 w Q := fun k => Eq.mpr (q2_Mo_end_33.eq_1 _ _ _ _ _ _) (z37 99999999999999999999 _ ⟨fun c => absurd i_0 c, fun _ => N (fun z => k z.1.1) _ _ S0⟩)
  have K1 : fitE (w.1 127 1).toInt a b → q2_Mo_end_33 d a b 1 w Q := fun ft => by
    have g0' := ft.1
    have g2 := ft.2.1
    have gb := ft.2.2.1
    have gb4 := ft.2.2.2.1
    refine Eq.mpr (q2_Mo_end_33.eq_1 _ _ _ _ _ _) (mx_37 h.1.1 ft.2.2.2.1 (fun ok => ⟨fun _ => ⟨fun ca => ?_, fun ca => ?_⟩, fun c => absurd (show ¬ (1 : Int32).toInt = 0 by decide) c⟩) (fun no => ⟨fun c => absurd i_0 c, fun _ => N (fun z => no z.1.2) _ _ S0⟩) FU 0 (by omega) (fun p p0 p1 => by omega) (fu_lt (by decide)))
    · have e128 : ∀ j, (sI w 127 1 0).1 128 j = w.1 128 j := fun j => (F0 128 j rfl).1
      clear K0 F0
      generalize (sI w 127 1 0) = w1 at *
      by_cases c1 : a.toInt = 1
      · refine me1_97 (w0 := w1) c1 gb4 (fun w15 h15 f15 => ⟨fun z => absurd c1 z, fun _ => ?_⟩) FU 0 w1 h1 (FR.refl _ w1) (by decide) (by decide) (fu_lt (by decide))
        refine h_Mr_read h15.1.1 h15.1.2.2.2.1.1 (fun r w' hB hF hD _ _ => ?_)
        have s' : sameM w w' := sm_tr (sm_tr S0 (sm_fr f15 rfl)) (sm_fr hF rfl)
        exact Eq.mpr (q_Mo_end_169.eq_1 _ _ _ _) ⟨fun _ => ⟨fun _ => N (fun z => by have := z.2; omega) _ _ s', fun _ => N (fun z => by have := z.2; omega) _ _ s'⟩, fun c2 => by omega⟩
      · have a2 : a.toInt = 2 := by omega
        have byt1 : ∀ p : Nat, (p : Int) < b.toInt → 1 ≤ (w1.1 128 p).toInt ∧ (w1.1 128 p).toInt ≤ 127 := fun p hp => by
          have t := ok p (by omega) hp
          unfold MTx at t
          rw [if_pos ⟨by omega, hp⟩] at t
          rw [e128]
          exact t
        have ff := hf ⟨ft, ok⟩
        refine mep_97 (w0 := w1) c1 gb gb4 byt1 (fun w15 h15 f15 s15 t15 => ⟨fun _ => ?_, fun z => absurd c1 z⟩) FU 0 w1 gb h1 (FR.refl _ w1) hs1 (fun p hp => absurd hp (Nat.not_lt_zero _)) (fu_lt (by decide))
        have T15 : TXm w15 f b.toInt := ⟨s15, gb4, fun p hp => by rw [t15 p hp, e128]; exact ff.1 p hp, ff.2⟩
        have P15 := h15.1.2.2.2.1
        have S15 : sameM w w15 := sm_tr S0 (sm_fr f15 rfl)
        refine tc_mono (ri_and (dm_Tx_read (d := d + 0) (w := w15) (Q := YRd f b.toInt) (y_read h15.1.1 T15 gb (fun r w' q => q))) (ri_and (dm_Tx_read (d := d + 0) (w := w15) (Q := fun r w' => r.toInt < 0 → HFk w15 w') (t7_read h15.1.1 h15.2.2 (fun r w' k => k))) (dm_Tx_read (d := d + 0) (w := w15) (Q := fun r w' => BND w' ∧ PF w') (t_read h15.1.1 h15.2.2 h15.2.1 (fun r w' hB hF hV hL _ => ⟨hB, PF_fr hF rfl P15⟩))))) (fun v w17 hv => ?_)
        obtain ⟨r, ev, ⟨z17, yr⟩, hk, hB, P'⟩ := hv
        have oo : ((fitE (w.1 127 1).toInt a b ∧ txO (MTx w b.toInt) b.toInt) ∧ a.toInt = 2) := ⟨⟨ft, ok⟩, a2⟩
        refine ⟨r, ev, Eq.mpr (q_Mo_end_169.eq_1 _ _ _ _) ⟨fun c2 => absurd a2 c2, fun _ => ⟨fun c => ⟨fun z => by omega, fun _ => hQ _ _ (Or.inr ⟨oo, ?_⟩)⟩, fun c => ?_⟩⟩⟩
        · rcases yr with ⟨x, pg, er⟩ | ⟨m, _, _, _, _, _, er, m0, _⟩
          · exact Or.inl ⟨x, pg, fun _ => hfj_s S15 (hfj_of (hk c))⟩
          · omega
        · have B4 : BND (sI w17 127 59 4) := wbd_127_59 hB (by decide) (by decide)
          have F4 : FR [(127, some 59)] w17 (sI w17 127 59 4) := FR.I (FR.refl _ w17) rfl
          have P4 : PF (sI w17 127 59 4) := PF_fr F4 rfl P'
          generalize (sI w17 127 59 4) = w4 at *
          refine h_Mo_closeAll B4 P4.2.1 P4.2.2.1 (fun w22 B22 F22 T22 H22 => mec_193 (w0 := w22) (fun w26 f26 => ?_) FU 0 w22 (FR.refl _ w22) (by decide) (by decide) (fu_lt (by decide)))
          have s26 : sameM w17 w26 := sm_tr (sm_tr (sm_fr F4 rfl) (sm_fr F22 rfl)) (sm_fr f26 rfl)
          refine ⟨fun _ => hQ _ _ (Or.inr ⟨oo, ?_⟩), fun z => absurd (show 0 ≤ r.toInt by omega) z⟩
          rcases yr with ⟨x, pg, er⟩ | ⟨m, ns, nm, ks, ts, pg, er, m0, R', T'⟩
          · refine Or.inl ⟨x, pg, fun x0 => ?_⟩
            have hi := ti_hi x
            have s := ti_sub2 (by decide : ((-1 : Int32)).toInt = -1) (Eq.refl x.toInt) (by omega) (by omega)
            rw [er] at c
            omega
          · exact Or.inr ⟨m, ns, nm, ks, ts, pg, rlm_s R' s26, tpw_s T' s26⟩
    · have h2 : MdJ (sI (sI w 127 1 0) 127 22 b) := MdJ_fr (l := [(127, some 22)]) (FR.I (FR.refl _ _) rfl) (wbd_127_22 h1.1.1 gb gb4) rfl h1
      have F2 : FR [(127, some 1), (127, some 22)] w (sI (sI w 127 1 0) 127 22 b) := FR.I (FR.I (FR.refl _ w) rfl) rfl
      have a0 := Classical.not_not.mp ca
      generalize (sI (sI w 127 1 0) 127 22 b) = w2 at *
      exact rm_read h2.1.1 (fun r w' r' ls B' F' k q => N (fun z => by have := z.2; omega) r w' (sm_tr (sm_fr F2 rfl) (sm_fr F' rfl)))
  exact Eq.mpr (p2_Mo_end.eq_1 _ _ _ _ _) ⟨fun c => K0 (fun z => by have := z.1; omega), fun a0 => ⟨fun c => K0 (fun z => by have := z.2.1; omega), fun a2 => ⟨fun c => K0 (fun z => by have := z.2.2.1; omega), fun b0 => ⟨fun c => K0 (fun z => by have := z.2.2.2.1; omega), fun b4 => ⟨fun c => K0 (fun z => by have := z.2.2.2.2; omega), fun bn => K1 ⟨by omega, by omega, by omega, by omega, by omega⟩⟩⟩⟩⟩⟩
