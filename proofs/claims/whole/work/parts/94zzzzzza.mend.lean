/-! the reference's end of a text: all that it does -/
def lhk : Pl := [(129, some 12), (129, some 31), (129, some 32), (131, none), (132, none), (135, none), (136, none), (137, none), (138, none), (141, none), (143, none)]
theorem hfk_t {l : Pl} {w w1 w2 : MW} (hF : FR l w w1) (ho : off l lhk = true) (k : HFk w1 w2) : HFk w w2 := by
  obtain ⟨k1, k2, k3, k4, ⟨k5, k6⟩, k7⟩ := k
  have e12 : w1.1 129 12 = w.1 129 12 := (hF 129 12 (off_hit ho rfl)).1
  refine ⟨k1.trans e12, k2.trans (hF 129 31 (off_hit ho rfl)).1, k3.trans (hF 129 32 (off_hit ho rfl)).1, fun j a b => ?_, ⟨fun j a b => ?_, fun j a b => ?_⟩, fun j a b => ?_⟩
  · rw [← e12] at a b
    have t := k4 j a b
    exact ⟨t.1.trans (hF 131 j (off_hit ho rfl)).1, t.2.1.trans (hF 132 j (off_hit ho rfl)).2.1, t.2.2.1.trans (hF 135 j (off_hit ho rfl)).1, t.2.2.2.1.trans (hF 136 j (off_hit ho rfl)).1, t.2.2.2.2.trans (hF 137 j (off_hit ho rfl)).1⟩
  · rw [← e12] at a b
    exact (k5 j a b).trans (hF 138 j (off_hit ho rfl)).1
  · rw [← e12] at a b
    exact (k6 j a b).trans (hF 143 j (off_hit ho rfl)).1
  · rw [← e12] at a b
    exact (k7 j a b).trans (hF 141 j (off_hit ho rfl)).1
theorem hfk_r (w : MW) : HFk w w := ⟨rfl, rfl, rfl, fun _ _ _ => ⟨rfl, rfl, rfl, rfl, rfl⟩, ⟨fun _ _ _ => rfl, fun _ _ _ => rfl⟩, fun _ _ _ => rfl⟩
theorem hfk_f {l : Pl} {w w1 : MW} (hF : FR l w w1) (ho : off l lhk = true) : HFk w w1 := hfk_t hF ho (hfk_r w1)
theorem mez_193 {z : Int32} {E : MW → Prop} {Q : Int32 → MW → Prop} {w0 : MW} (hE : ∀ w', FR [(201, none), (206, none)] w0 w' → (∀ m : Nat, m < 40 → (w'.1 201 m).toInt = -1 ∧ w'.2.1 206 m = 0) → E w') (n : Nat) : ∀ (k : Nat) (w : MW), FR [(201, none), (206, none)] w0 w → (∀ m : Nat, m < k → (w.1 201 m).toInt = -1 ∧ w.2.1 206 m = 0) → k ≤ 40 → 40 - k < n → q_Mo_end_193 z E Q n (nI k) w := by
  induction n with
  | zero => intros; omega
  | succ n ih =>
    intro k w hw hk k1 hm
    have tk : (nI k).toInt = (k : Int) := nI_toInt (by omega)
    have tn : (nI k).toInt.toNat = k := by omega
    rw [q_Mo_end_193.eq_2, tn, tk, nI_1]
    refine ⟨fun c => hE w hw (fun m hm => hk m (by omega)), fun c => ⟨⟨by omega, by omega⟩, ⟨by omega, by omega⟩, ih (k + 1) _ (FR.J (FR.I hw rfl) rfl) (fun m hm => ?_) (by omega) (by omega)⟩⟩
    rw [sJ_I, sI_at, sJ_at, sI_J]
    by_cases e : m = k
    · rw [if_pos ⟨rfl, e⟩, if_pos ⟨rfl, e⟩]
      exact ⟨by decide, rfl⟩
    · rw [if_neg (fun q => e q.2), if_neg (fun q => e q.2)]
      exact hk m (by omega)
def lmN : Pl := [(127, some 1), (127, some 22), (130, none), (148, none)] ++ lrd ++ lr1 ++ lmq
def lmP : Pl := [(127, some 1), (127, some 22)] ++ l_Mo_readPlant
def lmQ : Pl := [(127, some 1), (148, none)] ++ lmq
def lmG : Pl := [(127, some 1), (127, some 59), (130, none)] ++ lrd
/-- nothing was taken -/
def MzN (w w' : MW) (g0 : Nat) (rs0 : List Rw) : Prop := FR lmN w w' ∧ HFk w w' ∧ RoM w' g0 rs0 ∧ ∀ j : Nat, w'.1 160 j = w.1 160 j ∧ w'.1 161 j = w.1 161 j ∧ w'.1 162 j = w.1 162 j
def MzP (w w' : MW) (ls : List Ln) : Prop := FR lmP w w' ∧ PTk w' ls
def MzQ (w w' : MW) (rs : List Rw) : Prop := FR lmQ w w' ∧ ∃ g, RoM w' g rs ∧ ∀ j : Nat, j < rs.length → w'.1 160 j = 0 ∧ w'.1 161 j = 0 ∧ w'.1 162 j = 0
def MzG (w w' : MW) (ns : List Nod) (nm : List Nm) (ks : List Nat) : Prop := ∃ x y, FR lmG w x ∧ BND x ∧ (x.1 127 59).toInt = 4 ∧ StM ns x ∧ StN nm x ∧ RlM x nm ∧ (∃ ts, TpW x ts ks) ∧ p_Mo_closeAll x (fun z => z = y) ∧ FR l_Mo_closeAll x y ∧ FR [(201, none), (206, none)] y w' ∧ ∀ m : Nat, m < 40 → (w'.1 201 m).toInt = -1 ∧ w'.2.1 206 m = 0
def MZs (w : MW) (y : Int32) (f : Int → Int) (n : Int) (g0 : Nat) (rs0 : List Rw) (w' : MW) : Prop := (y.toInt = 0 ∧ ∃ (r' : Int) (ls : List Ln), (∃ k, PlR (MTx w n) n k 0 [] r' ls) ∧ ((0 ≤ r' ∧ MzN w w' g0 rs0) ∨ (r' = -1 ∧ MzP w w' ls))) ∨ (y.toInt = 1 ∧ ((∃ rs, (∃ k, RdQ f n k [] 0 (-1) rs) ∧ MzQ w w' rs) ∨ (∃ q : Int, 0 ≤ q ∧ (∃ k, RdQ f n k [] 0 q []) ∧ MzN w w' g0 rs0))) ∨ (y.toInt = 2 ∧ ((∃ e : Int, PGM f n (false, e, 0, [], [], []) ∧ (0 ≤ e → MzN w w' g0 rs0)) ∨ (∃ (m : Int) (ns : List Nod) (nm : List Nm) (ks : List Nat), PGM f n (true, 0, m, ns, nm, ks) ∧ MzG w w' ns nm ks)))
def EMz (w : MW) (f : Int → Int) (g0 : Nat) (rs0 : List Rw) (a b : Int32) (w' : MW) : Prop := (¬ (fitE (w.1 127 1).toInt a b ∧ txO (MTx w b.toInt) b.toInt) ∧ MzN w w' g0 rs0) ∨ ((fitE (w.1 127 1).toInt a b ∧ txO (MTx w b.toInt) b.toInt) ∧ MZs w a f b.toInt g0 rs0 w')
theorem mzn_f {l : Pl} {w w' : MW} {g0 : Nat} {rs0 : List Rw} (hR : RoM w g0 rs0) (F : FR l w w') (hs : sub l lmN = true) (h1 : off l lhk = true) (h2 : off l lqq = true) : MzN w w' g0 rs0 := by
  have s := sr_fr F h2
  exact ⟨(FR.refl lmN w).tr F hs, hfk_f F h1, rom_k hR (s 147 12 (by omega)) (s 147 20 (by omega)) (KR.fr F (off_mono h2 (by decide))), fun j => ⟨s 160 j (by omega), s 161 j (by omega), s 162 j (by omega)⟩⟩
theorem mz_end {d : Nat} {w : MW} {a b : Int32} {f : Int → Int} {g0 : Nat} {rs0 : List Rw} {Q : Int32 → MW → Prop} (h : MdJ w) (hs : (w.1 129 1).toInt = 0) (hs7 : (w.1 147 1).toInt = 0) (hR : RoM w g0 rs0) (hfx : (fitE (w.1 127 1).toInt a b ∧ txO (MTx w b.toInt) b.toInt) → (∀ p : Nat, (p : Int) < b.toInt → (w.1 128 p).toInt = f p) ∧ ∀ p : Int, ¬ (0 ≤ p ∧ p < b.toInt) → f p = -1) (hQ : ∀ r w', EMz w f g0 rs0 a b w' → Q r w') : p2_Mo_end d w a b Q := by
  have F0 : FR [(127, some 1)] w (sI w 127 1 0) := FR.I (FR.refl _ w) rfl
  have h1 : MdJ (sI w 127 1 0) := MdJ_fr (l := [(127, some 1)]) F0 (wbd_127_1 h.1.1 (by decide) (by decide)) rfl h
  have hs1 : ((sI w 127 1 0).1 129 1).toInt = 0 := by rw [(F0 129 1 rfl).1]; exact hs
  have hs2 : ((sI w 127 1 0).1 147 1).toInt = 0 := by rw [(F0 147 1 rfl).1]; exact hs7
  have R1 : RoM (sI w 127 1 0) g0 rs0 := rom_k hR (F0 147 12 rfl).1 (F0 147 20 rfl).1 (KR.fr F0 rfl)
  have N : ¬ (fitE (w.1 127 1).toInt a b ∧ txO (MTx w b.toInt) b.toInt) → ∀ r w', MzN w w' g0 rs0 → Q r w' := fun k r w' s => hQ r w' (Or.inl ⟨k, s⟩)
  have S0 : MzN w (sI w 127 1 0) g0 rs0 := mzn_f hR F0 (by decide +kernel) rfl rfl
  have K0 : ¬ fitE (w.1 127 1).toInt a b → q2_Mo_end_33 d a b 0 w Q := fun k => Eq.mpr (q2_Mo_end_33.eq_1 _ _ _ _ _ _) (z37 99999999999999999999 _ ⟨fun c => absurd i_0 c, fun _ => N (fun z => k z.1) _ _ S0⟩)
  have K1 : fitE (w.1 127 1).toInt a b → q2_Mo_end_33 d a b 1 w Q := fun ft => by
    have g0' := ft.1
    have g2 := ft.2.1
    have gb := ft.2.2.1
    have gb4 := ft.2.2.2.1
    refine Eq.mpr (q2_Mo_end_33.eq_1 _ _ _ _ _ _) (mx_37 h.1.1 ft.2.2.2.1 (fun ok => ⟨fun _ => ⟨fun ca => ?_, fun ca => ?_⟩, fun c => absurd (show ¬ (1 : Int32).toInt = 0 by decide) c⟩) (fun no => ⟨fun c => absurd i_0 c, fun _ => N (fun z => no z.2) _ _ S0⟩) FU 0 (by omega) (fun p p0 p1 => by omega) (fu_lt (by decide)))
    · have e128 : ∀ j, (sI w 127 1 0).1 128 j = w.1 128 j := fun j => (F0 128 j rfl).1
      clear K0 N
      generalize (sI w 127 1 0) = w1 at *
      have oo : (fitE (w.1 127 1).toInt a b ∧ txO (MTx w b.toInt) b.toInt) := ⟨ft, ok⟩
      have ff := hfx oo
      have byt1 : ∀ p : Nat, (p : Int) < b.toInt → 1 ≤ (w1.1 128 p).toInt ∧ (w1.1 128 p).toInt ≤ 127 := fun p hp => by
        have t := ok p (by omega) hp
        unfold MTx at t
        rw [if_pos ⟨by omega, hp⟩] at t
        rw [e128]
        exact t
      by_cases c1 : a.toInt = 1
      · refine meq_97 (w0 := w1) c1 gb gb4 byt1 (fun w15 f15 s15 t15 => ⟨fun z => absurd c1 z, fun _ => ?_⟩) FU 0 w1 gb (FR.refl _ w1) hs2 (fun p hp => absurd hp (Nat.not_lt_zero _)) (fu_lt (by decide))
        refine mq_read (f := f) (g0 := g0) (rs0 := rs0) gb gb4 s15 (fun p hp => by rw [t15 p hp, e128]; exact ff.1 p hp) (rom_k R1 (f15 147 12 rfl).1 (f15 147 20 rfl).1 (KR.fr f15 rfl)) (fun r w' F' z1 q => ?_)
        refine Eq.mpr (q_Mo_end_169.eq_1 _ _ _ _) ⟨fun _ => ?_, fun c2 => by omega⟩
        rcases q with ⟨g, rs, k, R', er, z⟩ | ⟨q, k, qb, er, R', z⟩
        · have O : ∀ r, Q r w' := fun r => hQ r w' (Or.inr ⟨oo, Or.inr (Or.inl ⟨c1, Or.inl ⟨rs, k, (((FR.refl lmQ w).tr F0 (by decide +kernel)).tr f15 (by decide +kernel)).tr F' (by decide +kernel), g, R', z⟩⟩)⟩)
          exact ⟨fun _ => O _, fun _ => O _⟩
        · have O : ∀ r, Q r w' := fun r => hQ r w' (Or.inr ⟨oo, Or.inr (Or.inl ⟨c1, Or.inr ⟨q, by omega, k, (((FR.refl lmN w).tr F0 (by decide +kernel)).tr f15 (by decide +kernel)).tr F' (by decide +kernel), hfk_t F0 rfl (hfk_t f15 rfl (hfk_f F' rfl)), R', fun j => by
            have t := z j
            rw [t.1, t.2.1, t.2.2, (f15 160 j rfl).1, (f15 161 j rfl).1, (f15 162 j rfl).1, (F0 160 j rfl).1, (F0 161 j rfl).1, (F0 162 j rfl).1]
            exact ⟨rfl, rfl, rfl⟩⟩⟩)⟩)
          exact ⟨fun _ => O _, fun _ => O _⟩
      · have a2 : a.toInt = 2 := by omega
        refine mep_97 (w0 := w1) c1 gb gb4 byt1 (fun w15 h15 f15 s15 t15 => ⟨fun _ => ?_, fun z => absurd c1 z⟩) FU 0 w1 gb h1 (FR.refl _ w1) hs1 (fun p hp => absurd hp (Nat.not_lt_zero _)) (fu_lt (by decide))
        have T15 : TXm w15 f b.toInt := ⟨s15, gb4, fun p hp => by rw [t15 p hp, e128]; exact ff.1 p hp, ff.2⟩
        have P15 := h15.1.2.2.2.1
        refine tc_mono (ri_and (dm_Tx_read (d := d + 0) (w := w15) (Q := YRe f b.toInt) (y_read2 h15.1.1 T15 gb (fun r w' q => q))) (ri_and (dm_Tx_read (d := d + 0) (w := w15) (Q := fun r w' => r.toInt < 0 → HFk w15 w') (t7_read h15.1.1 h15.2.2 (fun r w' k => k))) (dm_Tx_read (d := d + 0) (w := w15) (Q := fun r w' => BND w' ∧ PF w' ∧ FR lrd w15 w') (t_read h15.1.1 h15.2.2 h15.2.1 (fun r w' hB hF hV hL _ => ⟨hB, PF_fr hF rfl P15, hF⟩))))) (fun v w17 hv => ?_)
        obtain ⟨r, ev, ⟨z17, yr⟩, hk, hB, P', F17⟩ := hv
        have bad : r.toInt < 0 → MzN w w17 g0 rs0 := fun c => by
          have G : FR ([(127, some 1), (130, none)] ++ lrd) w w17 := (((FR.refl _ w).tr F0 (by decide +kernel)).tr f15 (by decide +kernel)).tr F17 (by decide +kernel)
          have s := sr_fr G (by decide +kernel)
          exact ⟨(FR.refl lmN w).tr G (by decide +kernel), hfk_t F0 rfl (hfk_t f15 rfl (hk c)), rom_k hR (s 147 12 (by omega)) (s 147 20 (by omega)) (KR.fr G (by decide +kernel)), fun j => ⟨s 160 j (by omega), s 161 j (by omega), s 162 j (by omega)⟩⟩
        refine ⟨r, ev, Eq.mpr (q_Mo_end_169.eq_1 _ _ _ _) ⟨fun c2 => absurd a2 c2, fun _ => ⟨fun c => ⟨fun z => by omega, fun _ => hQ _ _ (Or.inr ⟨oo, Or.inr (Or.inr ⟨a2, ?_⟩)⟩)⟩, fun c => ?_⟩⟩⟩
        · rcases yr with ⟨x, pg, er⟩ | ⟨m, _, _, _, _, _, er, m0, _⟩
          · exact Or.inl ⟨x.toInt, pg, fun _ => bad c⟩
          · omega
        · have B4 : BND (sI w17 127 59 4) := wbd_127_59 hB (by decide) (by decide)
          have F4 : FR [(127, some 59)] w17 (sI w17 127 59 4) := FR.I (FR.refl _ w17) rfl
          have P4 : PF (sI w17 127 59 4) := PF_fr F4 rfl P'
          have e59 : ((sI w17 127 59 4).1 127 59).toInt = 4 := by rw [sI_same]; decide
          generalize (sI w17 127 59 4) = w4 at *
          have hh := h_Mo_closeAll (Q := fun u => BND u ∧ FR l_Mo_closeAll w4 u) B4 P4.2.1 P4.2.2.1 (fun w22 B22 F22 T22 H22 => ⟨B22, F22⟩)
          obtain ⟨u, ⟨Bu, Fu⟩, eu⟩ := ex_p_Mo_closeAll hh
          refine al_p_Mo_closeAll (I := Unit) () (fun _ => eu) (fun z hz => ?_)
          rw [hz ()]
          refine mez_193 (w0 := u) (fun w26 f26 z26 => ?_) FU 0 u (FR.refl _ u) (fun m q => absurd q (Nat.not_lt_zero m)) (by decide) (fu_lt (by decide))
          refine ⟨fun _ => hQ _ _ (Or.inr ⟨oo, Or.inr (Or.inr ⟨a2, ?_⟩)⟩), fun z => absurd (show 0 ≤ r.toInt by omega) z⟩
          rcases yr with ⟨x, pg, er⟩ | ⟨m, ns, nm, ks, ts, pg, er, m0, R', T', M', N'⟩
          · refine Or.inl ⟨x.toInt, pg, fun x0 => ?_⟩
            have hi := ti_hi x
            have s := ti_sub2 (by decide : ((-1 : Int32)).toInt = -1) (Eq.refl x.toInt) (by omega) (by omega)
            rw [er] at c
            omega
          · exact Or.inr ⟨m, ns, nm, ks, pg, w4, u, (((FR.refl lmG w).tr F0 (by decide +kernel)).tr f15 (by decide +kernel)).tr F17 (by decide +kernel) |>.tr F4 (by decide +kernel), B4, e59, stm_f M' F4 rfl, stn_f N' F4 rfl, rlm_fr R' F4 rfl, ⟨ts, tpw_fr T' F4 rfl⟩, eu, Fu, f26, z26⟩
    · have h2 : MdJ (sI (sI w 127 1 0) 127 22 b) := MdJ_fr (l := [(127, some 22)]) (FR.I (FR.refl _ _) rfl) (wbd_127_22 h1.1.1 gb gb4) rfl h1
      have F2 : FR [(127, some 1), (127, some 22)] w (sI (sI w 127 1 0) 127 22 b) := FR.I (FR.I (FR.refl _ w) rfl) rfl
      have a0 := Classical.not_not.mp ca
      have oo : (fitE (w.1 127 1).toInt a b ∧ txO (MTx w b.toInt) b.toInt) := ⟨ft, ok⟩
      have ff := hfx oo
      have e22 : (sI (sI w 127 1 0) 127 22 b).1 127 22 = b := sI_same _ _ _ _
      have ehf : hf (sI (sI w 127 1 0) 127 22 b) = MTx w b.toInt := by
        funext p
        unfold hf MTx
        rw [sI_same, sI_oth _ _ _ _ _ _ (by decide), sI_oth _ _ _ _ _ _ (by decide)]
      generalize (sI (sI w 127 1 0) 127 22 b) = w2 at *
      refine rm_read h2.1.1 (fun r w' r' ls B' F' k q => hQ r w' (Or.inr ⟨oo, Or.inl ⟨a0, r', ls, by rw [ehf, e22] at k; exact k, ?_⟩⟩))
      rcases q with ⟨q0, _, lr⟩ | ⟨q1, _, pt⟩
      · exact Or.inl ⟨q0, mzn_f hR (l := [(127, some 1), (127, some 22)] ++ lr1) (((FR.refl _ w).tr F2 (by decide +kernel)).tr lr (by decide +kernel)) (by decide +kernel) (by decide +kernel) (by decide +kernel)⟩
      · exact Or.inr ⟨q1, ((FR.refl lmP w).tr F2 (by decide +kernel)).tr F' (by decide +kernel), pt⟩
  exact Eq.mpr (p2_Mo_end.eq_1 _ _ _ _ _) ⟨fun c => K0 (fun z => by have := z.1; omega), fun a0 => ⟨fun c => K0 (fun z => by have := z.2.1; omega), fun a2 => ⟨fun c => K0 (fun z => by have := z.2.2.1; omega), fun b0 => ⟨fun c => K0 (fun z => by have := z.2.2.2.1; omega), fun b4 => ⟨fun c => K0 (fun z => by have := z.2.2.2.2; omega), fun bn => K1 ⟨by omega, by omega, by omega, by omega, by omega⟩⟩⟩⟩⟩⟩
