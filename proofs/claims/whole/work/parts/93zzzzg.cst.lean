/-! the class reads statements: the kinds without blocks -/
def CBd (f : Int → Int) (n : Int) (nm : List Nm) (op : Nat) (L : List (Int × Int)) (s1 : ZS) (Q : Int32 → MW → Prop) : Prop := ∀ (y : Int32) (w' : MW) (r : ZR), ZE f n (lkn nm) op L s1 r → r.1 = false → ZW w' f n nm op r.2.1 → 0 ≤ y.toInt → y.toInt < 301 → Q y w'
def CGd (f : Int → Int) (n : Int) (oq : OQ) (nm : List Nm) (op jj : Nat) (k : Int) (L : List (Int × Int)) (s1 : ZS) (Q : Int32 → MW → Prop) : Prop := ∀ (y : Int32) (w9 w' : MW) (t : ZS), ZE f n (lkn nm) op L s1 (zok t) → ZG w9 f n oq nm op jj t → MKo w9 w' f n nm op t (k, t.2.2.2.2.1, t.2.2.2.2.2.2, t.2.2.2.1) y → Q y w'
theorem own_s {k : Int} (h : isS k = true) : own k = 1 := by
  unfold own
  rw [if_pos (Or.inl h)]
theorem cs_1 {ns : List Nod} {k a b : Int} {l : List Nat} (h : isS k = true) (h2 : ¬ k = 23) (hk : ∀ c ∈ l, ZC ns c) : cs1 (csl ns []) (k, a, b, l) = (1, 0) := by
  have q := isS_t.mp h
  unfold cs1
  rw [if_neg h2]
  show (cap (smC (csl ns []) (own k) l), mxD (csl ns []) 0 l + (if k = 35 then 1 else 0)) = (1, 0)
  rw [own_s h, sm_z l 1 (fun c hc => (hk c hc).1), mx_z l 0 (Int.le_refl _) (fun c hc => (hk c hc).2), if_neg (by omega)]
  decide
theorem zc_pre {ns ms : List Nod} {i : Nat} (h : ZC ns i) (hp : PRE ns ms) (hi : i < ns.length) : ZC ms i := by
  have g := gc_pre hp hi
  unfold ZC
  rw [g.1, g.2]
  exact h
theorem zg_pre {oq : OQ} {w : MW} {f : Int → Int} {n : Int} {nm : List Nm} {op jj op' : Nat} {c a : Int} {s s' : ZS} (h : ZG w f n oq nm op jj s) (hz : ZI f n (lkn nm) op' c a s (zok s')) : PRE s.2.1 s'.2.1 := (ZI_wf hz h.2.2.2.2.2.1 h.2.2.2.2.2.2.1 h.2.2.2.2.2.2.2.2).2.1
/-- the end of a statement: a semicolon, the node, its range -/
theorem ct_tl {oq : OQ} {w : MW} {f : Int → Int} {n k : Int} {nm : List Nm} {op jj : Nat} {L : List (Int × Int)} {s1 s : ZS} {a b fr to : Int32} {Q : Int32 → MW → Prop} (hZ : ZG w f n oq nm op jj s) (hk : isS k = true) (ha : a.toInt = k) (hb : b.toInt = s.2.2.2.2.1) (hc : cs1 (csl s.2.1 []) (k, s.2.2.2.2.1, s.2.2.2.2.2.2, s.2.2.2.1) = (1, 0)) (hl : s.2.2.2.1.drop (nxp k) = []) (hrg : RGv s.2.1 s.2.1.length (k, s.2.2.2.2.1, s.2.2.2.2.2.2, s.2.2.2.1) fr.toInt to.toInt) (f0 : 0 ≤ fr.toInt ∧ fr.toInt ≤ 301) (t0 : 0 ≤ to.toInt ∧ to.toInt ≤ 301) (H : ∀ r, ZE f n (lkn nm) op [(0, 59)] s r → ZE f n (lkn nm) op L s1 r) (bad : CBd f n nm op L s1 Q) (good : CGd f n oq nm op jj k L s1 Q) : p_Rd_take w 59 (fun w5 => (p_Rd_makeNode w5 a b (fun r6 w6 => (p_Rd_giveRange w6 r6 fr to (fun r7 w7 => (Q r7 w7)))))) := by
  have q := isS_t.mp hk
  refine ct_tk (c := 59) hZ (by decide) (fun w' r hz hf W => cw_mk W (fun r6 w6 r0 r1 W6 => cw_gr W6 r0 r1 f0 t0 (fun w7 W7 => bad _ w7 r (H r (ZE_b hz hf)) hf W7 r0 r1))) (fun w' s' hz es F Z => ?_)
  refine cm_gr (d := (k, s'.2.2.2.2.1, s'.2.2.2.2.2.2, s'.2.2.2.1)) Z ha ?_ (show ¬ k = 31 by omega) ?_ ?_ ?_ ?_ f0 t0 (fun y w2 o => good y w' w2 s' (H _ (ZE_g hz rfl (ZE_n _ _ _ _ _))) Z o)
  · rw [es]
    exact hb
  · rw [es]
    exact hc
  · rw [es]
    exact hl
  · rw [es]
    exact hZ.2.2.2.2.2.2.2.2
  · rw [es]
    exact hrg
theorem cw_tl {w : MW} {f : Int → Int} {n : Int} {nm : List Nm} {op : Nat} {e : Int} {a b fr to : Int32} {Q : Int32 → MW → Prop} (h : ZW w f n nm op e) (f0 : 0 ≤ fr.toInt ∧ fr.toInt ≤ 301) (t0 : 0 ≤ to.toInt ∧ to.toInt ≤ 301) (hQ : ∀ (y : Int32) (w' : MW), ZW w' f n nm op e → 0 ≤ y.toInt → y.toInt < 301 → Q y w') : p_Rd_take w 59 (fun w5 => (p_Rd_makeNode w5 a b (fun r6 w6 => (p_Rd_giveRange w6 r6 fr to (fun r7 w7 => (Q r7 w7)))))) :=
  cw_tk h (cw_mk h (fun r6 w6 r0 r1 W6 => cw_gr W6 r0 r1 f0 t0 (fun w7 W7 => hQ _ w7 W7 r0 r1)))
theorem one_z {ns : List Nod} {l : List Nat} {k : Nat} (hl : l = [k]) (h : ZC ns k) : ∀ c ∈ l, ZC ns c := fun c hc => by
  rw [hl] at hc
  rw [List.mem_singleton.mp hc]
  exact h
/-- wait -/
theorem ck_wait {oq : OQ} {w : MW} {f : Int → Int} {n : Int} {nm : List Nm} {op jj : Nat} {s1 : ZS} {a : Int32} {Q : Int32 → MW → Prop} (hZ : ZG w f n oq nm op jj s1) (ho : op ≤ 20) (ha : a.toInt = 12) (h0 : s1.2.2.2.1 = []) (hA : s1.2.2.2.2 = (0, 0, 0)) (bad : CBd f n nm op [(2, 3), (0, 59)] s1 Q) (good : CGd f n oq nm op jj 12 [(2, 3), (0, 59)] s1 Q) : p_Rd_readPause w a Q := by
  have f0 := bd_108_1 hZ.1.1.1
  refine Eq.mpr (p_Rd_readPause.eq_1 _ _ _) ⟨hZ.1.1.2.2.1, fun z => absurd ha z, fun _ => ct_sum (c := 3) hZ ho (by decide) (by rw [if_neg (by decide)]; decide) (fun w' r hz hf W => Eq.mpr (q_Rd_readPause_33.eq_1 _ _ _ _) ⟨W.1.2.2.1, cw_tl W f0 (bd_108_1 W.1.1) (fun y w2 W2 y0 y1 => bad y w2 r (ZE_b hz hf) hf W2 y0 y1)⟩) (fun w' s' hz ea ek zc F Z => Eq.mpr (q_Rd_readPause_33.eq_1 _ _ _ _) ⟨Z.1.1.2.2.1, ct_tl (k := 12) Z (by decide) ha ?_ (cs_1 (by decide) (by decide) (one_z ?_ zc.1)) ?_ (rgv_1 (e := s'.2.1.length - 1) (lo := s1.2.1.length) (r := []) (by decide) (by decide) ?_ ?_ hZ.1.2.2.2.2.1.1 zc.2.1) f0 (bd_108_1 Z.1.1.1) (fun r hr => ZE_g hz rfl hr) bad good⟩)⟩
  · rw [ea, hA]
    decide
  · rw [ek, h0]
    rfl
  · rw [ek, h0]
    rfl
  · rw [ek, h0]
    rfl
  · have p := Z.1.2.2.2.2.1.1
    have q := zc.2.2
    omega
/-- until -/
theorem ck_until {oq : OQ} {w : MW} {f : Int → Int} {n : Int} {nm : List Nm} {op jj : Nat} {s1 : ZS} {a : Int32} {Q : Int32 → MW → Prop} (hZ : ZG w f n oq nm op jj s1) (ho : op ≤ 20) (ha : a.toInt = 13) (h0 : s1.2.2.2.1 = []) (hA : s1.2.2.2.2 = (0, 0, 0)) (bad : CBd f n nm op [(3, 0), (0, 59)] s1 Q) (good : CGd f n oq nm op jj 13 [(3, 0), (0, 59)] s1 Q) : p_Rd_readPause w a Q := by
  have f0 := bd_108_1 hZ.1.1.1
  refine Eq.mpr (p_Rd_readPause.eq_1 _ _ _) ⟨hZ.1.1.2.2.1, fun _ => ct_tst hZ ho (by decide) (fun w' r hz hf W => Eq.mpr (q_Rd_readPause_33.eq_1 _ _ _ _) ⟨W.1.2.2.1, cw_tl W f0 (bd_108_1 W.1.1) (fun y w2 W2 y0 y1 => bad y w2 r (ZE_b hz hf) hf W2 y0 y1)⟩) (fun w' s' hz ea ek zc F Z => Eq.mpr (q_Rd_readPause_33.eq_1 _ _ _ _) ⟨Z.1.1.2.2.1, ct_tl (k := 13) Z (by decide) ha ?_ (cs_1 (by decide) (by decide) (one_z ?_ zc.1)) ?_ (rgv_1 (e := s'.2.1.length - 1) (lo := s1.2.1.length) (r := []) (by decide) (by decide) ?_ ?_ hZ.1.2.2.2.2.1.1 zc.2.1) f0 (bd_108_1 Z.1.1.1) (fun r hr => ZE_g hz rfl hr) bad good⟩), fun z => by have := Classical.not_not.mp z; omega⟩
  · rw [ea, hA]
    decide
  · rw [ek, h0]
    rfl
  · rw [ek, h0]
    rfl
  · rw [ek, h0]
    rfl
  · have p := Z.1.2.2.2.2.1.1
    have q := zc.2.2
    omega
/-- set and ramp, where it is wrong -/
theorem cw_38 {w : MW} {f : Int → Int} {n : Int} {nm : List Nm} {op : Nat} {e : Int} {k b fr du r3 : Int32} {Q : Int32 → MW → Prop} (h : ZW w f n nm op e) (f0 : 0 ≤ fr.toInt ∧ fr.toInt ≤ 301) (hQ : ∀ (y : Int32) (w' : MW), ZW w' f n nm op e → 0 ≤ y.toInt → y.toInt < 301 → Q y w') : q_Rd_readChange_38 k b fr du r3 w Q :=
  Eq.mpr (q_Rd_readChange_38.eq_1 _ _ _ _ _ _ _) (cw_de h ⟨h.1.2.2.1, fun _ => cw_tl h f0 (bd_108_1 h.1.1) hQ, fun _ => cw_tk h (cw_sum h (by decide) (cw_tl h f0 (bd_108_1 h.1.1) hQ))⟩)
theorem ck_chg {oq : OQ} {w : MW} {f : Int → Int} {n k : Int} {nm : List Nm} {op jj : Nat} {L : List (Int × Int)} {s1 : ZS} {a : Int32} {Q : Int32 → MW → Prop} (hZ : ZG w f n oq nm op jj s1) (ho : op ≤ 20) (ha : a.toInt = k) (h0 : s1.2.2.2.1 = []) (hk : (k = 11 ∧ L = [(1, 9), (2, -1), (0, 59)]) ∨ (k = 14 ∧ L = [(1, 9), (2, -1), (0, 15), (2, 3), (0, 59)])) (bad : CBd f n nm op L s1 Q) (good : CGd f n oq nm op jj k L s1 Q) : p_Rd_readChange w a Q := by
  have cut : ∃ L2, L = (1, 9) :: (2, -1) :: L2 ∧ ((k = 11 ∧ L2 = [(0, 59)]) ∨ (k = 14 ∧ L2 = [(0, 15), (2, 3), (0, 59)])) := by
    rcases hk with ⟨a, b⟩ | ⟨a, b⟩
    · exact ⟨_, b, Or.inl ⟨a, rfl⟩⟩
    · exact ⟨_, b, Or.inr ⟨a, rfl⟩⟩
  obtain ⟨L2, eL, hk2⟩ := cut
  rw [eL] at bad good
  have kS : isS k = true := by
    rcases hk2 with q | q <;> (rw [q.1]; decide)
  have k23 : ¬ k = 23 := by omega
  have wrong : ∀ (w1 : MW) (r1 : Int32) (r : ZR), ZW w1 f n nm op r.2.1 → (r1.toInt < 0 ∨ (0 ≤ r1.toInt ∧ r1.toInt < 40)) → ZE f n (lkn nm) op ((1, 9) :: (2, -1) :: L2) s1 r → r.1 = false → ((w1.2.2 87 1 = some 108) ∧ (p_Rd_readLevel w1 1 (fun r3 w3 => ((0 ≤ r1.toInt → ((w3.2.2 87 1 = some 108) ∧ ((0 ≤ r1.toInt ∧ r1.toInt < 40) ∧ (q_Rd_readChange_38 a r1 (w1.1 108 1) (w3.1 118 r1.toInt.toNat) r3 w3 Q)))) ∧ (¬ (0 ≤ r1.toInt) → (q_Rd_readChange_38 a r1 (w1.1 108 1) 0 r3 w3 Q)))))) := fun w1 r1 r W hr hE hf => by
    have K : ∀ du r3 : Int32, q_Rd_readChange_38 a r1 (w1.1 108 1) du r3 w1 Q := fun du r3 => cw_38 W (bd_108_1 W.1.1) (fun y w2 W2 y0 y1 => bad y w2 r hE hf W2 y0 y1)
    exact ⟨W.1.2.2.1, cw_lev (m := 1) W (by decide) (by decide) (fun y => ⟨fun z => ⟨W.1.2.2.1, ⟨z, by omega⟩, K _ _⟩, fun _ => K _ _⟩)⟩
  refine Eq.mpr (p_Rd_readChange.eq_1 _ _ _) (ct_nm (c := 9) hZ (by decide) (fun w1 r hz hf W => wrong w1 _ r W (Or.inl (by decide)) (ZE_b hz hf) hf) (fun w1 r i x hx _ _ hz hf il W => wrong w1 _ r W (Or.inr ⟨by rw [nI_toInt (by omega)]; omega, by rw [nI_toInt (by omega)]; omega⟩) (ZE_b hz hf) hf) (fun w1 s2 i x hx hz es xc el Z1 => ?_))
  have n4 := Z1.1.1.2.2.2.2.2.2.1.2.1
  have il := (List.getElem?_eq_some_iff.mp hx).1
  have ti : (nI i).toInt = (i : Int) := nI_toInt (by omega)
  have tn : (nI i).toInt.toNat = i := by omega
  have f0 := bd_108_1 Z1.1.1.1
  refine ⟨Z1.1.1.2.2.1, ct_lev (m := 1) Z1 ho (by decide) (by decide) (fun y w3 x3 hx3 g3 W3 => ?_) (fun y w3 x3 hx3 g3 ey e0 F3 Z3 zc => ?_)⟩
  · have hz2 : ZI f n (lkn nm) op 2 (-1) s2 (zer x3.2.1) := ZI_2 ⟨x3, hx3, by rw [if_neg (by rw [g3]; decide)]⟩
    have K : ∀ du r3 : Int32, q_Rd_readChange_38 a (nI i) (w1.1 108 1) du r3 w3 Q := fun du r3 => cw_38 W3 f0 (fun y w2 W2 y0 y1 => bad y w2 _ (ZE_g hz rfl (ZE_b hz2 rfl)) rfl W2 y0 y1)
    exact ⟨fun z => ⟨W3.1.2.2.1, ⟨z, by omega⟩, K _ _⟩, fun _ => K _ _⟩
  · refine ⟨fun _ => ⟨Z3.1.1.2.2.1, ⟨by omega, by omega⟩, ?_⟩, fun z => absurd (show 0 ≤ (nI i).toInt by omega) z⟩
    have un : (w3.1 118 (nI i).toInt.toNat).toInt = x.2.2.1 := by
      rw [tn]
      exact (Z3.1.1.2.2.2.2.2.2.1.2.2 i x hx).2.2.1
    have su : s2.2.2.2.2.2.1 = x.2.2.1 := by rw [es]
    have s20 : s2.2.2.2.1 = [] := by
      rw [es]
      exact h0
    have tg : nI i = nI i := rfl
    refine Eq.mpr (q_Rd_readChange_38.eq_1 _ _ _ _ _ _ _) (Eq.mpr (p_Rd_demand.eq_1 _ _ _ _) ⟨fun eq => ?_, fun ne => ?_⟩)
    · have hz2 : ZI f n (lkn nm) op 2 (-1) s2 (zok (x3.2.2.2.1, x3.2.2.2.2, s2.2.2.1, s2.2.2.2.1 ++ [x3.2.2.2.2.length - 1], s2.2.2.2.2)) := ZI_2 ⟨x3, hx3, by rw [if_pos g3, if_pos (by rw [if_pos (by decide), su, ← un, ← eq, ey])]⟩
      have arg : (nI i).toInt = s2.2.2.2.2.1 := by
        rw [es]
        exact ti
      have z1 : ∀ c ∈ s2.2.2.2.1 ++ [x3.2.2.2.2.length - 1], ZC x3.2.2.2.2 c := one_z (by rw [s20]; rfl) zc.1
      have e1 : s2.2.1 = s1.2.1 := by rw [es]
      have fr1 : (w1.1 108 1).toInt = (s2.2.1.length : Int) := Z1.1.2.2.2.2.1.1
      have to1 : (w3.1 108 1).toInt = (x3.2.2.2.2.length : Int) := Z3.1.2.2.2.2.1.1
      have lz := zc.2.2
      have kz : s2.2.2.2.1 ++ [x3.2.2.2.2.length - 1] = [x3.2.2.2.2.length - 1] := by
        rw [s20]
        rfl
      refine ⟨Z3.1.1.2.2.1, fun n14 => ?_, fun y14 => ?_⟩
      · have q11 : L2 = [(0, 59)] := by
          rcases hk2 with q | q
          · exact q.2
          · exact absurd (ha.trans q.1) n14
        rw [q11] at bad good
        have k11 : k = 11 := by
          rcases hk2 with q | q
          · exact q.1
          · exact absurd (ha.trans q.1) n14
        refine ct_tl (k := k) Z3 kS ha arg (cs_1 kS k23 z1) ?_ (rgv_1 (e := x3.2.2.2.2.length - 1) (lo := s2.2.1.length) (r := []) (by rw [k11]; decide) (by omega) kz (by omega) fr1 zc.2.1) f0 (bd_108_1 Z3.1.1.1) (fun r hr => ZE_g hz rfl (ZE_g hz2 rfl hr)) bad good
        show (s2.2.2.2.1 ++ [x3.2.2.2.2.length - 1]).drop (nxp k) = []
        rw [kz, k11]
        rfl
      · have q14 : L2 = [(0, 15), (2, 3), (0, 59)] := by
          rcases hk2 with q | q
          · have := Classical.not_not.mp y14
            omega
          · exact q.2
        rw [q14] at bad good
        have t0 := bd_108_1 Z3.1.1.1
        refine ct_tk (c := 15) Z3 (by decide) (fun w4 r hz3 hf W4 => cw_sum W4 (by decide) (cw_tl W4 f0 t0 (fun y w5 W5 y0 y1 => bad y w5 r (ZE_g hz rfl (ZE_g hz2 rfl (ZE_b hz3 hf))) hf W5 y0 y1))) (fun w4 s4 hz3 es3 F4 Z4 => ?_)
        refine ct_sum (c := 3) Z4 ho (by decide) (by rw [if_neg (by decide)]; decide) (fun w5 r hz4 hf W5 => cw_tl W5 f0 t0 (fun y w6 W6 y0 y1 => bad y w6 r (ZE_g hz rfl (ZE_g hz2 rfl (ZE_g hz3 rfl (ZE_b hz4 hf)))) hf W6 y0 y1)) (fun w5 s5 hz4 ea4 ek4 zc4 F5 Z5 => ?_)
        have pre := zg_pre Z4 hz4
        have k14 : k = 14 := by
          rcases hk2 with q | q
          · have := Classical.not_not.mp y14
            omega
          · exact q.1
        have e4 : s4.2.1 = x3.2.2.2.2 := by rw [es3]
        have k4 : s4.2.2.2.1 = [x3.2.2.2.2.length - 1] := by
          rw [es3]
          exact kz
        have k5 : s5.2.2.2.1 = [x3.2.2.2.2.length - 1, s5.2.1.length - 1] := by
          rw [ek4, k4]
          rfl
        have p5 : PRE x3.2.2.2.2 s5.2.1 := by
          rw [← e4]
          exact pre
        have t5 := zc4.2.1
        rw [e4] at t5
        refine ct_tl (k := k) Z5 kS ha ?_ (cs_1 kS k23 (fun c hc => ?_)) (by rw [k5, k14]; rfl) (Or.inr ⟨x3.2.2.2.2.length - 1, s2.2.1.length, [s5.2.1.length - 1], k5, by omega, fr1, tx_m p5 (Nat.le_refl _) zc.2.1, fun _ => ⟨rfl, by rw [show x3.2.2.2.2.length - 1 + 1 = x3.2.2.2.2.length by omega]; exact t5⟩, (show ¬ nxp k = 0 by rw [k14]; decide)⟩) f0 t0 (fun r hr => ZE_g hz rfl (ZE_g hz2 rfl (ZE_g hz3 rfl (ZE_g hz4 rfl hr)))) bad good
        · rw [ea4, es3]
          exact arg
        · rw [ek4] at hc
          rcases List.mem_append.mp hc with q | q
          · rw [es3] at q
            have zq := z1 c q
            have lq := Z3.2.2.2.2.2.2.2.2 c q
            rw [es3] at pre
            exact zc_pre zq pre lq
          · rw [List.mem_singleton.mp q]
            exact zc4.1
    · have hz2 : ZI f n (lkn nm) op 2 (-1) s2 (zer (wrd f n x3.2.2.2.1).2.1) := ZI_2 ⟨x3, hx3, by rw [if_pos g3, if_neg (fun q => ne (by rw [un, ← su, ey, q, if_pos (by decide)]))]⟩
      refine fl_g Z3.1 (fun w4 F4 X4 => ?_)
      have W4 := zw_of X4
      have t0 := bd_108_1 W4.1.1
      exact ⟨W4.1.2.2.1, fun _ => cw_tl W4 f0 t0 (fun y w5 W5 y0 y1 => bad y w5 _ (ZE_g hz rfl (ZE_b hz2 rfl)) rfl W5 y0 y1), fun _ => cw_tk W4 (cw_sum W4 (by decide) (cw_tl W4 f0 t0 (fun y w5 W5 y0 y1 => bad y w5 _ (ZE_g hz rfl (ZE_b hz2 rfl)) rfl W5 y0 y1)))⟩
