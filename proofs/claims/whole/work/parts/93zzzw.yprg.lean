/-! the reference reads a program -/
/-- the numbers ts stand outside -/
def TpM (w : MW) (ts : List Nat) : Prop := (w.1 129 23).toInt = (ts.length : Int) ∧ ∀ (k c : Nat), ts[k]? = some c → (w.1 138 (nb w (k : Int))).toInt = (c : Int)
theorem tpl_k {w w' : MW} {ts : List Nat} (h : TpM w ts) (K : KNm w w') : TpM w' ts := ⟨by rw [K.2.2.2.2.2.1]; exact h.1, fun k c hk => by rw [(knm_b K).2, K.2.2.2.2.2.2]; exact h.2 k c hk⟩
/-- a number more -/
theorem y_top {w : MW} {f : Int → Int} {n : Int} {nm : List Nm} {op : Nat} {e p : Int} {ns : List Nod} {ts : List Nat} {r : Int32} {X : Nat} {y : Int32} (h : YS w f n nm op (e + 1) p ns) (he : 0 ≤ e) (hT : TpM w ts) (r0 : 0 ≤ r.toInt) (r1 : r.toInt < (ns.length : Int)) (hX : X = nb w (ts.length : Int)) (hy : y.toInt = (ts.length : Int) + 1) : YS (sI (sI w 138 X r) 129 23 y) f n nm op e p ns ∧ TpM (sI (sI w 138 X r) 129 23 y) (ts ++ [r.toInt.toNat]) ∧ FR [(129, some 23), (138, none)] w (sI (sI w 138 X r) 129 23 y) := by
  have hI := h.1.1.1
  have b13 := bd_129_13 hI
  have b21 := bd_129_21 hI
  have b35 := bd_129_35 hI
  have b23 := bd_129_23 hI
  have e13 := h.2.2.2.1.1
  have hs := h.1.1.2.2
  have t1 := hT.1
  have F : FR [(129, some 23), (138, none)] w (sI (sI w 138 X r) 129 23 y) := FR.I (FR.I (FR.refl _ w) rfl) rfl
  have hB : BND (sI (sI w 138 X r) 129 23 y) := wbd_129_23 (wbd_138 hI X r0 (by omega)) (by omega) (by omega)
  have r138 : ∀ j, (sI (sI w 138 X r) 129 23 y).1 138 j = (sI w 138 X r).1 138 j := fun j => rfl
  have r23 : (sI (sI w 138 X r) 129 23 y).1 129 23 = y := sI_same _ _ _ _
  generalize (sI (sI w 138 X r) 129 23 y) = w' at *
  have eb : bhf w' = bhf w := by unfold bhf; rw [(F 129 12 rfl).1]
  have en : ∀ i, nb w' i = nb w i := fun i => by unfold nb; rw [eb]
  refine ⟨⟨⟨⟨hB, he, ?_⟩, txm_fr h.1.2.1 F rfl, nmm_fr h.1.2.2.1 F rfl, by rw [(F 129 11 rfl).1]; exact h.1.2.2.2⟩, ?_, h.2.2.1, ⟨by rw [(F 129 13 rfl).1]; exact e13, fun i d hd => ?_⟩, h.2.2.2.2⟩, ⟨?_, fun k c hk => ?_⟩, F⟩
  · rw [(F 129 35 rfl).1, (F 129 21 rfl).1, r23, (F 129 13 rfl).1]
    omega
  · have t := h.2.1
    unfold TkM at t ⊢
    rw [(F 129 4 rfl).1, (F 129 5 rfl).1, (F 129 2 rfl).1, (F 129 6 rfl).1, (F 129 8 rfl).2.1, (F 129 9 rfl).1]
    exact t
  · have t := h.2.2.2.1.2 i d hd
    unfold PNd at t ⊢
    rw [en, (F 131 _ rfl).1, (F 132 _ rfl).2.1, (F 135 _ rfl).1, (F 136 _ rfl).1, (F 129 21 rfl).1]
    refine ⟨t.1, t.2.1, t.2.2.1, t.2.2.2.1, t.2.2.2.2.1, fun k c hk => ?_⟩
    rw [en, (F 137 _ rfl).1]
    exact t.2.2.2.2.2 k c hk
  · rw [r23, hy, List.length_append, List.length_singleton]
    omega
  · rw [en, r138]
    rcases app_get hk with q | ⟨q, q2⟩
    · have kl := (List.getElem?_eq_some_iff.mp q).1
      have bh := bhf_b hI
      rw [sI_ne _ _ _ _ _ (show nb w (k : Int) ≠ X by rw [hX]; unfold nb; omega)]
      exact hT.2 k c q
    · rw [q, ← hX, sI_same, q2]
      omega
def YD (w : MW) (f : Int → Int) (n : Int) (s : DS) (ts : List Nat) : Prop := YS w f n s.2.2.2 0 0 s.1 s.2.1 ∧ (w.1 129 38).toInt = s.2.2.1 ∧ 0 ≤ s.2.2.1 ∧ s.2.2.1 ≤ (s.2.1.length : Int) ∧ TpM w ts ∧ ∀ t ∈ ts, t < s.2.1.length ∧ (w.1 131 (nb w (t : Int))).toInt = 24
theorem stp_k {w w' : MW} {ns : List Nod} {ts : List Nat} (h : ∀ t ∈ ts, t < ns.length ∧ (w.1 131 (nb w (t : Int))).toInt = 24) (e13 : (w.1 129 13).toInt = (ns.length : Int)) (K : KNm w w') : ∀ t ∈ ts, t < ns.length ∧ (w'.1 131 (nb w' (t : Int))).toInt = 24 := fun t ht => by
  have q := h t ht
  refine ⟨q.1, ?_⟩
  rw [(knm_b K).2, (K.2.2.2.1 (t : Int) (by omega) (by omega)).1]
  exact q.2
/-- a declaration -/
theorem y_decl {w : MW} {f : Int → Int} {n : Int} {s : DS} {ts : List Nat} {Q : Int32 → MW → Prop} (h : YD w f n s ts) (hc : (wrd f n s.1).1 = 8 ∨ (wrd f n s.1).1 = 9 ∨ (wrd f n s.1).1 = 10) (hb : ∀ (w' : MW) (r : DQ), dcl f n s r → r.1 = false → (w'.1 129 10).toInt = r.2.1 → Q 0 w') (hg : ∀ (w' : MW) (s' : DS) (ts' : List Nat), dcl f n s (dok s') → YD w' f n s' ts' → s.2.2.2.length < s'.2.2.2.length → Q 1 w') : p_Tx_declaration w Q := by
  have Y := h.1
  have tk := y_tk Y
  have tb := tk_unit (f := f) (n := n) (p := s.1) Y.2.2.1
  have ewh := ti_sub2 tk (show (1000 : Int32).toInt = 1000 by decide) (by omega) (by omega)
  have erl : tkm (wrd f n s.1).1 - 1000 = mrl (wrd f n s.1).1 := by
    rcases hc with c | c | c <;> rw [c] <;> decide
  have e24 : mrl (wrd f n s.1).1 = 24 ↔ (wrd f n s.1).1 = 10 := by
    rcases hc with c | c | c <;> rw [c] <;> decide
  refine Eq.mpr (p_Tx_declaration.eq_1 _ _) ?_
  generalize ((w.1 129 4) - (1000 : Int32)) = wh at *
  refine y_go Y (fun ok w1 F1 Y1 K1 p1 => ⟨fun _ => ?_, fun z => absurd i1n z⟩) (fun bad w1 e1 => ⟨fun z => absurd i_0 z, fun _ => hb w1 (der (wrd f n (wrd f n s.1).2.2.1).2.1) (by unfold dcl; rw [if_pos bad]) rfl e1⟩)
  refine y_tell (c := (wrd f n s.1).1) Y1 hc (by omega) (fun no w' e' => ⟨fun _ => hb w' (der (wrd f n (wrd f n s.1).2.2.1).2.1) (by unfold dcl; rw [if_neg ok, if_pos no]) rfl e', fun z => absurd (show (-1 : Int32).toInt < 0 by decide) z⟩) (fun yes r3 w3 e3 Y3 K3 F3 => ⟨fun z => absurd z (by omega), fun _ => ?_⟩)
  have n4 := Y1.1.2.2.1.2.1
  refine y_go Y3 (fun ok5 w5 F5 Y5 K5 p5 => ⟨fun _ => ?_, fun z => absurd i1n z⟩) (fun bad w5 e5 => ⟨fun z => absurd i_0 z, fun _ => hb w5 (der (wrd f n (wrd f n (wrd f n s.1).2.2.1).2.2.1).2.1) (by unfold dcl; rw [if_neg ok, if_neg (fun z => z yes), if_pos bad]) rfl e5⟩)
  have K135 : KX w w5 := (K1.tr K3).tr K5
  have e13 := Y.2.2.2.1.1
  have bh := bhf_b Y5.1.1.1
  have ei := cc_ix (n := r3) Y5.1.1.1 (by omega) (by omega)
  have m5 : (w5.1 129 38).toInt = s.2.2.1 := by rw [K135.2.2.2]; exact h.2.1
  have T5 : TpM w5 ts := tpl_k h.2.2.2.2.1 K135.1
  have S5 := stp_k h.2.2.2.2.2 e13 K135.1
  refine ⟨fun c10 => ?_, fun n10 => ?_⟩
  · have k10 := e24.mp (by omega)
    rw [k10] at Y5
    have up : ∀ (r : DQ) (r1 : ZR), ZI f n (lkn s.2.2.2) 0 4 0 (dbl ((wrd f n (wrd f n s.1).2.2.1).2.2.1, s.2)) r1 → (if r1.1 = true then r = dst f n s (wrd f n (wrd f n s.1).2.2.1).2.2.2.1 r1.2.2 else r = der r1.2.1) → dcl f n s r := fun r r1 a b => by
      unfold dcl
      rw [if_neg ok, if_neg (fun z => z yes), if_neg ok5, if_pos k10]
      exact ⟨r1, a, b⟩
    have Z5 : YZ w5 f n (s.2.2.2 ++ [((wrd f n (wrd f n s.1).2.2.1).2.2.2.1, 10, 0, -1)]) 0 0 (w5.1 129 35).toInt (dbl ((wrd f n (wrd f n s.1).2.2.1).2.2.1, s.2)) := ⟨Y5, pil_nil Y5.1.1.1, m5, h.2.2.1, h.2.2.2.1⟩
    have lk := lkn_app s.2.2.2 (wrd f n (wrd f n s.1).2.2.1).2.2.2.1
    refine yi_blk (c := 4) (y_block (by omega)) Z5 (fun w' r hz hf ew => ⟨fun z => absurd i_0 z, fun _ => ?_⟩) (fun w9 s9 hz ea p9 n9 Z9 K9 => ⟨fun _ => ?_, fun z => absurd i1n z⟩)
    · rw [lk] at hz
      exact hb w' (der r.2.1) (up _ r hz (by rw [if_neg (by rw [hf]; decide)])) rfl ew
    · rw [lk] at hz
      have l9 := ys_len Z9.1
      have e9 := Z9.1.2.2.2.1.1
      have kids : s9.2.2.2.1 = [s9.2.1.length - 1] := zi_kid rfl hz
      have done : ∀ r, r = dst f n s (wrd f n (wrd f n s.1).2.2.1).2.2.2.1 s9 → dcl f n s r := fun r er => up r (zok s9) hz (by
        show (if true = true then _ else _)
        rw [if_pos rfl]
        exact er)
      refine y_node (d := (10, 0, 0, [s9.2.1.length - 1])) (lo := (w5.1 129 35).toInt) Z9.1 (show (24 : Int32).toInt = wht 10 by decide) (show 0 ≤ wht 10 by decide) (show wht 10 ≤ 24 by decide) (by decide) (by decide) rfl (by rw [← kids]; exact Z9.2.1) (fun z => absurd z (show ¬ (10 : Int) = 31 by decide)) (fun _ z => absurd rfl z) (fun n3 w' e' => ⟨fun z => absurd z (by decide), fun _ => hb w' (der (wrd f n s9.1).2.1) (done _ (by unfold dst; rw [if_pos n3])) rfl e'⟩) (fun n3 r w11 er Y11 KN e35 kp eu e38 e23 => ⟨fun _ => ?_, fun z => absurd (show 0 ≤ r.toInt by omega) z⟩)
      have eb : bhf w11 = bhf w5 := ((knm_b KN).1).trans (knm_b K9.1).1
      have ei2 := cc_ix (n := r3) Y11.1.1.1 (by omega) (by omega)
      have bh2 := bhf_b Y11.1.1.1
      have XX : ((((40 : Int32) * ((1 : Int32) - (w11.1 129 12))) + r3).toInt.toNat : Int) = 40 * bhf w11 + (s.2.2.2.length : Int) := by omega
      have lr : ((s9.2.1 ++ [(10, 0, 0, [s9.2.1.length - 1])]).length : Int) = (s9.2.1.length : Int) + 1 := by rw [List.length_append, List.length_singleton]; omega
      have ST := y_sets (r := r) Y11 XX (by omega) (by omega)
      refine ⟨⟨by omega, by omega⟩, Eq.mpr (p_Tx_base.eq_1 _ _) ?_⟩
      have T11 : TpM (sI w11 143 ((((40 : Int32) * ((1 : Int32) - (w11.1 129 12))) + r3).toInt.toNat) r) ts := tpl_k (tpl_k (tpl_k T5 K9.1) KN) ST.2.1
      have e13' := Y11.2.2.2.1.1
      have S11 : ∀ t ∈ ts, t < s.2.1.length ∧ (w11.1 131 (nb w11 (t : Int))).toInt = 24 := stp_k S5 (by have := Z5.1.2.2.2.1.1; exact this) (K9.1.tr KN)
      have k24 := (Y11.2.2.2.1.2 s9.2.1.length (10, 0, 0, [s9.2.1.length - 1]) (by rw [List.getElem?_append_right (Nat.le_refl _), Nat.sub_self]; rfl)).1
      generalize hw14 : sI w11 143 ((((40 : Int32) * ((1 : Int32) - (w11.1 129 12))) + r3).toInt.toNat) r = w14 at *
      have t23 := T11.1
      have b23 := bd_129_23 ST.1.1.1.1
      have ej := bb_ix (n := w14.1 129 23) ST.1.1.1.1 (by omega) (by omega)
      have bh3 := bhf_b ST.1.1.1.1
      have b13 := bd_129_13 ST.1.1.1.1
      have hs14 := ST.1.1.1.2.2
      have c35 := bd_129_35 ST.1.1.1.1
      have c21 := bd_129_21 ST.1.1.1.1
      have dl : (dbl ((wrd f n (wrd f n s.1).2.2.1).2.2.1, s.2)).2.1.length = s.2.1.length := rfl
      have s23 := ti_add2 t23 i_1 (by omega) (by omega)
      have TP := y_top (r := r) (X := ((((300 : Int32) * ((1 : Int32) - (w14.1 129 12))) + (w14.1 129 23)).toInt.toNat)) (y := (w14.1 129 23) + (1 : Int32)) ST.1 (Int.le_refl 0) T11 (by omega) (by omega) (by rw [ej]; unfold nb; rw [t23]) (by omega)
      refine ⟨⟨by omega, by omega⟩, hg _ (s9.1, s9.2.1 ++ [(10, 0, 0, [s9.2.1.length - 1])], s9.2.2.1, s.2.2.2 ++ [((wrd f n (wrd f n s.1).2.2.1).2.2.2.1, 10, 0, (s9.2.1.length : Int) - 1)]) (ts ++ [r.toInt.toNat]) (done _ (by unfold dst; rw [if_neg n3])) ⟨?_, ?_, Z9.2.2.2.1, ?_, TP.2.1, fun t ht => ?_⟩ ?_⟩
      · have t := TP.1
        rw [er] at t
        exact t
      · rw [(TP.2.2 129 38 rfl).1, ST.2.2.2.2, e38]
        exact Z9.2.2.1
      · show s9.2.2.1 ≤ ((s9.2.1 ++ [(10, 0, 0, [s9.2.1.length - 1])]).length : Int)
        have := Z9.2.2.2.2
        omega
      · show t < (s9.2.1 ++ [(10, 0, 0, [s9.2.1.length - 1])]).length ∧ _
        have eb3 : ∀ (a b : MW), bhf a = bhf b → ∀ i, nb a i = nb b i := fun a b q i => by unfold nb; rw [q]
        have q14 : bhf w14 = bhf w11 := (knm_b ST.2.1).1
        have qtp : bhf (sI (sI w14 138 ((((300 : Int32) * ((1 : Int32) - (w14.1 129 12))) + (w14.1 129 23)).toInt.toNat) r) 129 23 ((w14.1 129 23) + (1 : Int32))) = bhf w14 := by
          unfold bhf
          rw [(TP.2.2 129 12 rfl).1]
        rw [(TP.2.2 131 _ rfl).1, eb3 _ _ qtp, eb3 _ _ q14]
        have i14 : ∀ i : Int, 0 ≤ i → i < (w11.1 129 13).toInt → w14.1 131 (nb w11 i) = w11.1 131 (nb w11 i) := fun i i0 i1 => (ST.2.1.2.2.2.1 i i0 i1).1
        rcases List.mem_append.mp ht with q | q
        · have t1 := S11 t q
          refine ⟨by omega, ?_⟩
          rw [i14 _ (by omega) (by omega)]
          exact t1.2
        · rw [List.mem_singleton.mp q]
          refine ⟨by omega, ?_⟩
          rw [show ((r.toInt.toNat : Nat) : Int) = (s9.2.1.length : Int) by omega, i14 _ (by omega) (by omega), k24]
          show wht 10 = 24
          decide
      · show s.2.2.2.length < (s.2.2.2 ++ [_]).length
        rw [List.length_append, List.length_singleton]
        omega
  · have k10 : ¬ (wrd f n s.1).1 = 10 := fun q => n10 (by have := e24.mpr q; omega)
    have up : ∀ r, r = dsg f n s (wrd f n s.1).1 (wrd f n (wrd f n s.1).2.2.1).2.2.1 (wrd f n (wrd f n s.1).2.2.1).2.2.2.1 → dcl f n s r := fun r er => by
      unfold dcl
      rw [if_neg ok, if_neg (fun z => z yes), if_neg ok5, if_neg k10]
      exact er
    refine y_uw Y5 (fun u eu => ?_)
    have ub : 0 ≤ u.toInt ∧ u.toInt ≤ 5 := by
      by_cases c : 1 ≤ (wrd f n (wrd f n (wrd f n s.1).2.2.1).2.2.1).1 ∧ (wrd f n (wrd f n (wrd f n s.1).2.2.1).2.2.1).1 ≤ 5
      · rw [if_pos c] at eu
        omega
      · rw [if_neg c] at eu
        omega
    have XX : ((((40 : Int32) * ((1 : Int32) - (w5.1 129 12))) + r3).toInt.toNat : Int) = 40 * bhf w5 + (s.2.2.2.length : Int) := by omega
    have SU := y_setu (u := u) Y5 XX ub.1 ub.2
    refine ⟨⟨by omega, by omega⟩, ?_⟩
    generalize sI w5 142 ((((40 : Int32) * ((1 : Int32) - (w5.1 129 12))) + r3).toInt.toNat) u = w6 at *
    have fin : ∀ (w7 : MW) (q : Int), YS w7 f n (s.2.2.2 ++ [((wrd f n (wrd f n s.1).2.2.1).2.2.2.1, (wrd f n s.1).1, u.toInt, -1)]) 0 0 q s.2.1 → KX w5 w7 → (∀ r, r = dun f n s (wrd f n s.1).1 u.toInt q (wrd f n (wrd f n s.1).2.2.1).2.2.2.1 → dcl f n s r) → p_Tx_over w7 59 (fun r19 w19 => ((r19.toInt = 0 → (Q 0 w19)) ∧ (¬ (r19.toInt = 0) → (Q 1 w19)))) := fun w7 q Y7 K7 hd => by
      refine y_over (c := 59) Y7 (s59 q Y7.2.2.1) (fun k okk w' F' Y' K' pn => ⟨fun z => absurd z i1n, fun _ => hg w' ((wrd f n q).2.2.1, s.2.1, s.2.2.1, s.2.2.2 ++ [((wrd f n (wrd f n s.1).2.2.1).2.2.2.1, (wrd f n s.1).1, u.toInt, -1)]) ts (hd _ (by unfold dun; rw [if_pos k, if_neg okk])) ⟨Y', ?_, h.2.2.1, h.2.2.2.1, tpl_k T5 (K7.tr K').1, stp_k S5 Y5.2.2.2.1.1 (K7.tr K').1⟩ ?_⟩) (fun k bd w' e' => ⟨fun _ => hb w' (der (wrd f n (wrd f n q).2.2.1).2.1) (hd _ (by unfold dun; rw [if_pos k, if_pos bd])) rfl e', fun z => absurd i_0 z⟩) (fun no w' e' => ⟨fun _ => hb w' (der (wrd f n q).2.1) (hd _ (by unfold dun; rw [if_neg no])) rfl e', fun z => absurd i_0 z⟩)
      · rw [(K7.tr K').2.2.2]
        exact m5
      · show s.2.2.2.length < (s.2.2.2 ++ [_]).length
        rw [List.length_append, List.length_singleton]
        omega
    refine ⟨fun u0 => fin w6 _ SU.1 SU.2 (fun r er => up r ?_), fun u1 => y_go SU.1 (fun okk w7 F7 Y7 K7 p7 => ⟨fun z => absurd z i1n, fun _ => fin w7 _ Y7 (SU.2.tr K7) (fun r er => up r ?_)⟩) (fun bd w7 e7 => ⟨fun _ => hb w7 (der (wrd f n (wrd f n (wrd f n (wrd f n s.1).2.2.1).2.2.1).2.2.1).2.1) (up _ ?_) rfl e7, fun z => absurd i_0 z⟩)⟩
    · have c : ¬ (1 ≤ (wrd f n (wrd f n (wrd f n s.1).2.2.1).2.2.1).1 ∧ (wrd f n (wrd f n (wrd f n s.1).2.2.1).2.2.1).1 ≤ 5) := fun c => by
        rw [if_pos c] at eu
        omega
      unfold dsg
      rw [if_neg c, er, u0]
    · have c : 1 ≤ (wrd f n (wrd f n (wrd f n s.1).2.2.1).2.2.1).1 ∧ (wrd f n (wrd f n (wrd f n s.1).2.2.1).2.2.1).1 ≤ 5 := by
        by_cases c : 1 ≤ (wrd f n (wrd f n (wrd f n s.1).2.2.1).2.2.1).1 ∧ (wrd f n (wrd f n (wrd f n s.1).2.2.1).2.2.1).1 ≤ 5
        · exact c
        · rw [if_neg c] at eu
          exact absurd eu u1
      unfold dsg
      rw [if_pos c, if_neg okk, er, eu, if_pos c]
    · have c : 1 ≤ (wrd f n (wrd f n (wrd f n s.1).2.2.1).2.2.1).1 ∧ (wrd f n (wrd f n (wrd f n s.1).2.2.1).2.2.1).1 ≤ 5 := by
        by_cases c : 1 ≤ (wrd f n (wrd f n (wrd f n s.1).2.2.1).2.2.1).1 ∧ (wrd f n (wrd f n (wrd f n s.1).2.2.1).2.2.1).1 ≤ 5
        · exact c
        · rw [if_neg c] at eu
          exact absurd eu u1
      unfold dsg
      rw [if_pos c, if_pos bd]
