/-! the class reads a program -/
def BKd (ns : List Nod) (nm : List Nm) : Prop := ∀ (i : Nat) (x : Nm), nm[i]? = some x → 0 ≤ x.2.2.2 → ∃ d, ns[x.2.2.2.toNat]? = some d ∧ d.1 = 35
theorem dbk_of {ns : List Nod} {nm : List Nm} (h : BKd ns nm) : DBk (lkn nm) ns := fun l h0 h1 => by
  obtain ⟨i, x, hx, _, _, xb, b0⟩ := lkn_x (nm := nm) (l := l) (j := (lkn nm l).1) (u := (lkn nm l).2.2.1) (b := (lkn nm l).2.2.2) (by rw [← h1]) h0
  have t := h i x hx (by omega)
  rw [xb] at t
  exact t
theorem cd_mk {w : MW} {f : Int → Int} {n : Int} {s : DS} (X : XS w f n s.2.2.2 0 s.1 s.2.1) (e0 : (w.1 108 0).toInt = s.2.2.1) (m0 : 0 ≤ s.2.2.1) (m1 : s.2.2.1 ≤ (s.2.1.length : Int)) (hS : SzC w s.2.1) (hD : DWf s) (hK : BKd s.2.1 s.2.2.2) (e2 : (w.1 108 2).toInt = -1) (hX : ∀ (i : Nat) (x : Nm), s.2.2.2[i]? = some x → 0 ≤ x.2.2.2 → (w.1 114 x.2.2.2.toNat).toInt = -1) : CD w f n s :=
  ⟨⟨X, ⟨by rw [e0]; show s.2.2.1 = s.2.2.1 + ((0 : Nat) : Int); omega, ⟨e2, Nat.zero_le _, fun i hi => absurd hi (Nat.not_lt_zero _)⟩⟩, m0, m1, hS, hD.1, dwf_l hD, dbk_of hK, fun c hc => (by cases hc)⟩, hD.2, e2, fun i x a b => ⟨hK i x a b, hX i x a b⟩⟩
theorem cd_wf {w : MW} {f : Int → Int} {n : Int} {s : DS} (h : CD w f n s) : DWf s := ⟨h.1.2.2.2.2.2.1, h.2.1⟩
theorem cd_c {w : MW} {f : Int → Int} {n : Int} {s : DS} (h : CD w f n s) : (w.1 108 0).toInt = s.2.2.1 := by
  have t : (w.1 108 0).toInt = s.2.2.1 + ((0 : Nat) : Int) := h.1.2.1.1
  omega
/-- a semicolon, and the name is told -/
theorem cq_un {w : MW} {f : Int → Int} {n c U q : Int} {s : DS} {l : List Int} {code : Int64} {i k u b : Int32} {A : Int32 → MW → Prop} (h : CD w f n (q, s.2)) (lt : s.2.2.2.length < 40) (hc : code.toInt = cod 0 l) (hl : ∀ x ∈ l, ldc x) (hk : k.toInt = c) (c10 : ¬ c = 10) (hu : u.toInt = U) (u0 : 0 ≤ U) (hb' : b.toInt = -1) (hb : ∀ (w' : MW) (r : DQ), r = dun f n s c U q l → r.1 = false → 0 ≤ r.2.1 → (w'.1 87 9).toInt = r.2.1 → A (i + (1 : Int32)) w') (hg : ∀ (w' : MW) (s' : DS), dok s' = dun f n s c U q l → s'.2.2.2.length = s.2.2.2.length + 1 → CD w' f n s' → A (i + (1 : Int32)) w') : p_Rd_take w 59 (fun w12 => ((w12.2.2 87 1 = some 108) ∧ (p_Pr_addNames108 w12 code k u b (fun w14 => (A (i + (1 : Int32)) w14))))) := by
  have X : XS w f n s.2.2.2 0 q s.2.1 := h.1.1
  have hw := X.2.2.2.1
  have c3 : (w.1 87 3).toInt = (wrd f n q).1 := X.2.1.1
  have wr : ∀ (w' : MW) (e : Int), ZW w' f n s.2.2.2 0 e → der e = dun f n s c U q l → ((w'.2.2 87 1 = some 108) ∧ (p_Pr_addNames108 w' code k u b (fun w14 => (A (i + (1 : Int32)) w14)))) := fun w' e W ee => ⟨W.1.2.2.1, cw_add W.1.1 W.2.1 (fun w2 e2 => hb w2 (der e) ee rfl W.2.2.1 e2)⟩
  refine Eq.mpr (p_Rd_take.eq_1 _ _ _) ⟨fun z => absurd z (by omega), fun _ => ⟨fun e => ?_, fun e => fl_g X (fun w' F' X' => wr w' _ (zw_of X') ?_)⟩⟩
  · have k59 : (wrd f n q).1 = 59 := by
      rw [← c3, e]
      decide
    refine nx_g X.1 hw X.2.1.2.2.1 X.2.2.2.2.1 X.2.2.2.2.2.1 (fun ok w' F' X' => ⟨X'.1.2.2.1, ?_⟩) (fun bd w' F' X' => wr w' _ (zw_of X') ?_)
    · have eq : dok ((wrd f n q).2.2.1, s.2.1, s.2.2.1, s.2.2.2 ++ [(l, c, U, -1)]) = dun f n s c U q l := by
        unfold dun
        rw [if_pos k59, if_neg ok]
      refine ca_add (c := c) (U := U) (Bk := -1) X' lt hc hl hk hu hb' u0 (by decide) (by decide) (fun z => absurd z c10) (fun w2 F2 X2 => hg w2 _ eq (by show (s.2.2.2 ++ [(l, c, U, -1)]).length = _; rw [List.length_append, List.length_singleton]) ?_)
      have F3 : FR (lanm ++ lpw) w w2 := ((FR.refl (lanm ++ lpw) w).tr F' rfl).tr F2 rfl
      have D : DWf (q, s.2) := cd_wf h
      refine cd_mk (s := ((wrd f n q).2.2.1, s.2.1, s.2.2.1, s.2.2.2 ++ [(l, c, U, -1)])) X2 (by rw [(F3 108 0 rfl).1]; exact cd_c (s := (q, s.2)) h) h.1.2.2.1 h.1.2.2.2.1 (szc_k h.1.2.2.2.2.1 (fr_89 F3 rfl _)) (dun_wf eq D) (fun j x hx x0 => ?_) (by rw [(F3 108 2 rfl).1]; exact h.2.2.1) (fun j x hx x0 => ?_)
      · rcases app_get hx with p | ⟨_, p2⟩
        · exact (h.2.2.2 j x p x0).1
        · rw [p2] at x0
          exact absurd x0 (show ¬ (0 : Int) ≤ -1 by decide)
      · rcases app_get hx with p | ⟨_, p2⟩
        · rw [(F3 114 _ rfl).1]
          exact (h.2.2.2 j x p x0).2
        · rw [p2] at x0
          exact absurd x0 (show ¬ (0 : Int) ≤ -1 by decide)
    · unfold dun
      rw [if_pos k59, if_pos bd]
  · unfold dun
    rw [if_neg (fun z => e (by rw [c3, z]; decide))]
/-- the declarations -/
theorem cq_38 {f : Int → Int} {n : Int} {s0 : DS} {E : MW → Prop} {Q : Int32 → MW → Prop} (hb : ∀ (w' : MW) (r : DQ), (∃ k, DP f n k s0 r) → r.1 = false → 0 ≤ r.2.1 → (w'.1 87 9).toInt = r.2.1 → E w') (hg : ∀ (w' : MW) (s' : DS), (∃ k, DP f n k s0 (dok s')) → CD w' f n s' → E w') (m : Nat) : ∀ (i : Int32) (w : MW) (s : DS), CD w f n s → (∀ r, (∃ k, DP f n k s r) → ∃ k, DP f n k s0 r) → 0 ≤ i.toInt → i.toInt ≤ (s.2.2.2.length : Int) → 42 - s.2.2.2.length < m → q_Rd_read_1_108_38 E Q m i w := by
  induction m with
  | zero => intros; omega
  | succ m ih =>
    intro i w s h H i0 i1 hm
    have X := h.1.1
    have hw := X.2.2.2.1
    have c3 : (w.1 87 3).toInt = (wrd f n s.1).1 := X.2.1.1
    have n4 := X.1.2.2.2.2.2.2.1.2.1
    have ii := ti_add2 (Eq.refl i.toInt) i_1 (by omega) (by omega)
    have done : ¬ ((wrd f n s.1).1 = 8 ∨ (wrd f n s.1).1 = 9 ∨ (wrd f n s.1).1 = 10) → E w := fun no => hg w s (H _ ⟨1, by rw [DP_u, if_neg no]⟩) h
    rw [q_Rd_read_1_108_38.eq_2, c3]
    refine ⟨fun q => by omega, fun _ => ⟨fun q => by omega, fun _ => ⟨fun q => done (by omega), fun g8 => ⟨fun q => done (by omega), fun l10 => ?_⟩⟩⟩⟩
    have hc : (wrd f n s.1).1 = 8 ∨ (wrd f n s.1).1 = 9 ∨ (wrd f n s.1).1 = 10 := by omega
    have wrong : ∀ (w' : MW) (r : DQ), dcl f n s r → r.1 = false → 0 ≤ r.2.1 → (w'.1 87 9).toInt = r.2.1 → q_Rd_read_1_108_38 E Q m (i + (1 : Int32)) w' := fun w' r hd hf e0 ew => by
      have e : E w' := hb w' r (H r ⟨1, by rw [DP_u, if_pos hc]; exact ⟨r, hd, by rw [if_neg (by rw [hf]; decide)]⟩⟩) hf e0 ew
      cases m with
      | zero => omega
      | succ m =>
        rw [q_Rd_read_1_108_38.eq_2]
        exact ⟨fun _ => e, fun _ => ⟨fun _ => e, fun q => absurd (show 0 ≤ (w'.1 87 9).toInt by omega) q⟩⟩
    have right : ∀ (w' : MW) (s' : DS), dcl f n s (dok s') → s'.2.2.2.length = s.2.2.2.length + 1 → CD w' f n s' → q_Rd_read_1_108_38 E Q m (i + (1 : Int32)) w' := fun w' s' hd hl h' => ih _ w' s' h' (fun r hr => H r (by
      obtain ⟨k, hr⟩ := hr
      refine ⟨k + 1, ?_⟩
      rw [DP_u, if_pos hc]
      refine ⟨dok s', hd, ?_⟩
      show (if true = true then _ else _)
      rw [if_pos rfl]
      exact hr)) (by omega) (by omega) (by omega)
    refine ct_new h (fun code w7 e he W => ?_) (fun code w7 ok yes ok2 ec h7 => ?_)
    · have hd : dcl f n s (der e) := by
        unfold dcl
        rcases he with ⟨a, b⟩ | ⟨a, b, d⟩ | ⟨a, b, d, g⟩
        · rw [if_pos a, b]
        · rw [if_neg a, if_pos b, d]
        · rw [if_neg a, if_neg (fun z => z b), if_pos d, g]
      have W0 := W.2.2.1
      have ew := W.2.1
      refine ⟨fun _ => Eq.mpr (p_Rd_takeUnit.eq_1 _ _) ⟨fun _ => cw_114 W (fun w' e' => wrong w' (der e) hd rfl W0 e'), fun q => absurd (show 0 ≤ (w7.1 87 9).toInt by omega) q⟩, fun _ => cw_block W (cw_114 W (fun w' e' => wrong w' (der e) hd rfl W0 e'))⟩
    · have wl := wrd_l (f := f) (n := n) (p := (wrd f n s.1).2.2.1) (by have := yes.1; omega)
      have X7 : XS w7 f n s.2.2.2 0 (wrd f n (wrd f n s.1).2.2.1).2.2.1 s.2.1 := h7.1.1
      have hw7 := X7.2.2.2.1
      have c7 : (w7.1 87 3).toInt = (wrd f n (wrd f n (wrd f n s.1).2.2.1).2.2.1).1 := X7.2.1.1
      refine ⟨fun n10 => ?_, fun y10 => ?_⟩
      · have k10 : ¬ (wrd f n s.1).1 = 10 := n10
        have up : ∀ r, r = dsg f n s (wrd f n s.1).1 (wrd f n (wrd f n s.1).2.2.1).2.2.1 (wrd f n (wrd f n s.1).2.2.1).2.2.2.1 → dcl f n s r := fun r er => by
          unfold dcl
          rw [if_neg ok, if_neg (fun z => z yes), if_neg ok2, if_neg k10]
          exact er
        have tail : ∀ (w10 : MW) (q U : Int) (u : Int32), CD w10 f n (q, s.2) → u.toInt = U → 0 ≤ U → (∀ r, r = dun f n s (wrd f n s.1).1 U q (wrd f n (wrd f n s.1).2.2.1).2.2.2.1 → dcl f n s r) → q_Rd_read_1_108_114 i (w.1 87 3) code (-1) u w10 (fun (x38_3 : Int32) (w : MW) => q_Rd_read_1_108_38 E Q m x38_3 w) E Q := fun w10 q U u h10 eu u0 hd => Eq.mpr (q_Rd_read_1_108_114.eq_1 _ _ _ _ _ _ _ _ _) ⟨fun _ => cq_un (c := (wrd f n s.1).1) (U := U) h10 yes.2.2 ec wl.1 c3 k10 eu u0 (by decide) (fun w' r er hf e0 ew => wrong w' r (hd r er) hf e0 ew) (fun w' s' es hl h' => right w' s' (hd _ es) hl h'), fun z => absurd (by rw [c3]; exact k10) z⟩
        refine Eq.mpr (p_Rd_takeUnit.eq_1 _ _) ⟨fun z => absurd z (by omega), fun _ => ?_⟩
        rw [c7]
        refine ⟨fun lt => tail w7 _ 0 0 h7 (by decide) (by decide) (fun r er => up r ?_), fun ge => ⟨fun le => ?_, fun gt => tail w7 _ 0 0 h7 (by decide) (by decide) (fun r er => up r ?_)⟩⟩
        · unfold dsg
          rw [if_neg (by omega)]
          exact er
        · have u15 : 1 ≤ (wrd f n (wrd f n (wrd f n s.1).2.2.1).2.2.1).1 ∧ (wrd f n (wrd f n (wrd f n s.1).2.2.1).2.2.1).1 ≤ 5 := ⟨by omega, le⟩
          refine nx_g X7.1 hw7 X7.2.1.2.2.1 X7.2.2.2.2.1 X7.2.2.2.2.2.1 (fun ok3 w4 F4 X4 => tail w4 (wrd f n (wrd f n (wrd f n s.1).2.2.1).2.2.1).2.2.1 (wrd f n (wrd f n (wrd f n s.1).2.2.1).2.2.1).1 _ ⟨zg_x h7.1 X4 (fr_89 F4 rfl _) (s0_fr F4 rfl) (0, 0, 0), h7.2.1, by rw [(F4 108 2 rfl).1]; exact h7.2.2.1, fun i x hx x0 => ⟨(h7.2.2.2 i x hx x0).1, by rw [(F4 114 _ rfl).1]; exact (h7.2.2.2 i x hx x0).2⟩⟩ c7 (by omega) (fun r er => up r ?_)) (fun bd w4 F4 X4 => cw_114 (zw_of X4) (fun w' e' => wrong w' (der (wrd f n (wrd f n (wrd f n (wrd f n s.1).2.2.1).2.2.1).2.2.1).2.1) (up _ ?_) rfl (zw_of X4).2.2.1 e'))
          · unfold dsg
            rw [if_pos u15, if_neg ok3]
            exact er
          · unfold dsg
            rw [if_pos u15, if_pos bd]
        · unfold dsg
          rw [if_neg (by omega)]
          exact er
      · have k10 : (wrd f n s.1).1 = 10 := Classical.not_not.mp y10
        have up : ∀ (r : DQ) (r1 : ZR), ZI f n (lkn s.2.2.2) 0 4 0 (dbl ((wrd f n (wrd f n s.1).2.2.1).2.2.1, s.2)) r1 → (if r1.1 = true then r = dst f n s (wrd f n (wrd f n s.1).2.2.1).2.2.2.1 r1.2.2 else r = der r1.2.1) → dcl f n s r := fun r r1 a b => by
          unfold dcl
          rw [if_neg ok, if_neg (fun z => z yes), if_neg ok2, if_pos k10]
          exact ⟨r1, a, b⟩
        refine c_block (Nat.zero_le _) (Nat.zero_le _) (dbl ((wrd f n (wrd f n s.1).2.2.1).2.2.1, s.2)) w7 _ (zg_f h7.1) (fun y w18 r hr o => ?_)
        rcases o with ⟨z, er, Z, ey, et, e88, e89, nn, eN⟩ | ⟨g, W, y0, y1⟩
        · rw [er] at hr
          obtain ⟨Z, K4⟩ := zg_b h7.1 Z
          have la := zi_last hr
          have l3 := Z.1.2.2.2.2.2.1
          have pre := zg_pre h7.1 hr
          have hE : ∀ r, r = dst f n s (wrd f n (wrd f n s.1).2.2.1).2.2.2.1 z → dcl f n s r := fun r er2 => up r (zok z) hr (by
            show (if true = true then _ else _)
            rw [if_pos rfl]
            exact er2)
          refine Eq.mpr (q_Rd_read_1_108_114.eq_1 _ _ _ _ _ _ _ _ _) ⟨fun z => absurd (by rw [c3]; exact k10) z, fun _ => mk_g (d := (10, 0, 0, [z.2.1.length - 1])) Z.1 (show (10 : Int32).toInt = 10 by decide) (show (0 : Int32).toInt = 0 by decide) (show ¬ (10 : Int) = 31 by decide) (fun n3 w15 F15 K15 X15 _ _ _ _ _ _ => ⟨X15.1.2.2.1, ?_⟩) (fun n3 w15 F15 K15 X15 => ⟨X15.1.2.2.1, cw_add X15.1.1 X15.2.1 (fun w' e' => wrong w' (der (wrd f n z.1).2.1) (hE _ (by unfold dst; rw [if_pos n3])) rfl X15.2.2.1 e')⟩)⟩
          have eq : dok (z.1, z.2.1 ++ [(10, 0, 0, [z.2.1.length - 1])], z.2.2.1, s.2.2.2 ++ [((wrd f n (wrd f n s.1).2.2.1).2.2.2.1, 10, 0, (z.2.1.length : Int) - 1)]) = dst f n s (wrd f n (wrd f n s.1).2.2.1).2.2.2.1 z := by
            unfold dst
            rw [if_neg n3]
          refine ca_add (c := 10) (U := 0) (Bk := (z.2.1.length : Int) - 1) X15 yes.2.2 ec wl.1 (by rw [c3]; exact k10) i_0 (by omega) (by decide) (by omega) (by omega) (fun _ => by have := la.2; omega) (fun w17 F17 X17 => right w17 _ (hE _ eq) (by show (s.2.2.2 ++ [((wrd f n (wrd f n s.1).2.2.1).2.2.2.1, 10, 0, (z.2.1.length : Int) - 1)]).length = _; rw [List.length_append, List.length_singleton]) ?_)
          have e8 : E6 w18 w17 z.2.1.length := fun k hk => by
            have q := e6_kn K15 k hk
            exact ⟨(F17 88 k rfl).1.trans q.1, (F17 89 k rfl).1.trans q.2.1, (F17 111 k rfl).1.trans q.2.2.1, (F17 112 k rfl).1.trans q.2.2.2.1, (F17 113 k rfl).1.trans q.2.2.2.2.1, (F17 114 k rfl).1.trans q.2.2.2.2.2⟩
          have p1 := PRE.one z.2.1 (10, 0, 0, [z.2.1.length - 1])
          have cz : (w18.1 108 0).toInt = z.2.2.1 := by
            have t : (w18.1 108 0).toInt = z.2.2.1 + ((0 : Nat) : Int) := Z.2.1.1
            omega
          refine cd_mk (s := (z.1, z.2.1 ++ [(10, 0, 0, [z.2.1.length - 1])], z.2.2.1, s.2.2.2 ++ [((wrd f n (wrd f n s.1).2.2.1).2.2.2.1, 10, 0, (z.2.1.length : Int) - 1)])) X17 (by rw [(F17 108 0 rfl).1, (F15 108 0 rfl).1]; exact cz) Z.2.2.1 ?_ (szc_pre Z.2.2.2.2.1 e8 p1 (now_1 (show own 10 = 0 by decide))) (dcl_wf (hE _ eq) (cd_wf h)) (fun k x hx x0 => ?_) ?_ (fun k x hx x0 => ?_)
          · show z.2.2.1 ≤ ((z.2.1 ++ [(10, 0, 0, [z.2.1.length - 1])]).length : Int)
            have := Z.2.2.2.1
            rw [List.length_append, List.length_singleton]
            omega
          · rcases app_get hx with p | ⟨_, p2⟩
            · obtain ⟨d, hd, e⟩ := (h.2.2.2 k x p x0).1
              exact ⟨d, (pre.tr p1).get hd, e⟩
            · obtain ⟨d, hd, e⟩ := la.1
              rw [p2]
              refine ⟨d, p1.get ?_, e⟩
              show z.2.1[((z.2.1.length : Int) - 1).toNat]? = some d
              rw [show ((z.2.1.length : Int) - 1).toNat = z.2.1.length - 1 by omega]
              exact hd
          · rw [(F17 108 2 rfl).1, (F15 108 2 rfl).1]
            exact Z.2.1.2.1
          · rcases app_get hx with p | ⟨_, p2⟩
            · obtain ⟨⟨d, hd, e⟩, e1⟩ := h7.2.2.2 k x p x0
              have il : x.2.2.2.toNat < s.2.1.length := (List.getElem?_eq_some_iff.mp hd).1
              have k4 : w18.1 114 x.2.2.2.toNat = w7.1 114 x.2.2.2.toNat := K4 _ il
              have ll : s.2.1.length ≤ z.2.1.length := pre.len
              rw [(e8 x.2.2.2.toNat (by omega)).2.2.2.2.2, k4]
              exact e1
            · rw [p2]
              show (w17.1 114 ((z.2.1.length : Int) - 1).toNat).toInt = -1
              have ll := la.2
              rw [show ((z.2.1.length : Int) - 1).toNat = z.2.1.length - 1 by omega, (e8 (z.2.1.length - 1) (by omega)).2.2.2.2.2, show z.2.1.length - 1 = y.toInt.toNat by omega]
              exact eN
        · exact cw_114 W (fun w' e' => wrong w' (der r.2.1) (up _ r hr (by rw [if_neg (by rw [g]; decide)])) rfl W.2.2.1 e')
