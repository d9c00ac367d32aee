/-! the class reads tests, sums and products -/
theorem lv_x {w : MW} {a : Int32} {Q : Int32 → MW → Prop} (hQ : ∀ r : Int32, r.toInt = (lvo a.toInt : Int) → Q r w) : p_Rd_levelOf w a Q :=
  Eq.mpr (p_Rd_levelOf.eq_1 _ _ _) ⟨fun z => hQ 2 (by rw [z]; decide), fun z42 => ⟨fun z => hQ 1 (by rw [z]; decide), fun z43 => ⟨fun z => hQ 3 (by rw [z]; decide), fun z44 => ⟨fun z => hQ 1 (by rw [z]; decide), fun z45 => ⟨fun z => hQ 3 (by rw [z]; decide), fun z46 => ⟨fun z => hQ 2 (by rw [z]; decide), fun z47 => ⟨fun z => hQ 3 (by rw [z]; decide), fun z48 => ⟨fun z => hQ 3 (by rw [z]; decide), fun z49 => ⟨fun z => hQ 3 (by rw [z]; decide), fun z50 => ⟨fun z => hQ 3 (by rw [z]; decide), fun z51 => ⟨fun z => hQ 3 (by rw [z]; decide), fun z52 => ⟨fun z => hQ 3 (by rw [z]; decide), fun z53 => ⟨fun z => hQ 3 (by rw [z]; decide), fun z54 => ⟨fun z => hQ 3 (by rw [z]; decide), fun z55 => ⟨fun z => hQ 3 (by rw [z]; decide), fun z56 => ⟨fun z => hQ 3 (by rw [z]; decide), fun z57 => ⟨fun z => hQ 3 (by rw [z]; decide), fun z58 => ⟨fun z => hQ 3 (by rw [z]; decide), fun z59 => ⟨fun z => hQ 0 (by rw [z]; decide), fun z60 => ⟨fun z => hQ 0 (by rw [z]; decide), fun z61 => ⟨fun z => hQ 0 (by rw [z]; decide), fun z62 => hQ 3 (by unfold lvo; rw [if_neg (by omega), if_neg (by omega), if_neg (by omega)]; decide)⟩⟩⟩⟩⟩⟩⟩⟩⟩⟩⟩⟩⟩⟩⟩⟩⟩⟩⟩⟩⟩
theorem lvo_o {c : Int} {m : Nat} (h : lvo c = m) (hm : m < 3) : c = 60 ∨ c = 61 ∨ c = 62 ∨ c = 43 ∨ c = 45 ∨ c = 42 ∨ c = 47 := by
  unfold lvo at h
  by_cases a : c = 60 ∨ c = 61 ∨ c = 62
  · omega
  · rw [if_neg a] at h
    by_cases b : c = 43 ∨ c = 45
    · omega
    · rw [if_neg b] at h
      by_cases d : c = 42 ∨ c = 47
      · omega
      · rw [if_neg d] at h
        omega
/-- what reading a sum comes to; N nodes stood before, p is where it began -/
def XO (w w' : MW) (f : Int → Int) (n : Int) (nm : List Nm) (op N : Nat) (p : Int) (r : XR) (y : Int32) : Prop := KNd N w w' ∧ FR lexp w w' ∧ ((r.1 = true ∧ XS w' f n nm op r.2.2.2.1 r.2.2.2.2 ∧ y.toInt = r.2.2.1 ∧ 0 ≤ r.2.2.1 ∧ p ≤ r.2.2.2.1 ∧ N < r.2.2.2.2.length) ∨ (r.1 = false ∧ XW w' f n nm op r.2.1 N))
def CFa (f : Int → Int) (n : Int) (nm : List Nm) (d : Nat) : Prop := ∀ (op : Nat) (p : Int) (ns : List Nod) (w : MW) (Q : Int32 → MW → Prop), op ≤ 20 → 4 * (21 - op) ≤ d → XS w f n nm op p ns → (∀ (y : Int32) (w' : MW) (r : XR), (∃ k, XP f n (lkn nm) k 3 op 0 p ns r) → XO w w' f n nm op ns.length p r y → Q y w') → pn_Rd_readFactor d w Q
def CLv (f : Int → Int) (n : Int) (nm : List Nm) (d : Nat) : Prop := ∀ (m op : Nat) (p : Int) (ns : List Nod) (w : MW) (Q : Int32 → MW → Prop), m < 3 → op ≤ 20 → 4 * (21 - op) + (3 - m) ≤ d → XS w f n nm op p ns → (∀ (y : Int32) (w' : MW) (r : XR), (∃ k, XP f n (lkn nm) k m op 0 p ns r) → XO w w' f n nm op ns.length p r y → Q y w') → pn_Rd_readLevel d w (nI m) Q
theorem w_mono {w : MW} {f : Int → Int} {n : Int} {nm : List Nm} {op N M : Nat} {e : Int} (h : XW w f n nm op e N) (hm : M ≤ N) : XW w f n nm op e M := ⟨h.1, h.2.1, h.2.2.1, by have := h.2.2.2.1; omega, by have := h.2.2.2.2; omega⟩
/-- an operand: factor or level, in a good state or a wrong one -/
theorem opd {f : Int → Int} {n : Int} {nm : List Nm} {m op d : Nat} (hm : m < 3) (ho : op ≤ 20) (hF : CFa f n nm d) (hL : CLv f n nm d) (hd : 4 * (21 - op) + (2 - m) ≤ d) {p : Int} {ns : List Nod} {w : MW} {Q : Int32 → MW → Prop} (h : XS w f n nm op p ns) (hQ : ∀ (y : Int32) (w' : MW) (r : XR), (∃ k, XP f n (lkn nm) k (m + 1) op 0 p ns r) → XO w w' f n nm op ns.length p r y → Q y w') : (3 ≤ (nI (m + 1)).toInt → pn_Rd_readFactor d w Q) ∧ (¬ 3 ≤ (nI (m + 1)).toInt → pn_Rd_readLevel d w (nI (m + 1)) Q) := by
  have tm : (nI (m + 1)).toInt = ((m + 1 : Nat) : Int) := nI_toInt (by omega)
  refine ⟨fun z => hF op p ns w Q ho (by omega) h (fun y w' r hk hx => hQ y w' r (by rw [show m + 1 = 3 by omega]; exact hk) hx), fun z => hL (m + 1) op p ns w Q (by omega) ho (by omega) h hQ⟩
theorem opw {f : Int → Int} {n : Int} {nm : List Nm} {m op d N : Nat} {e : Int} (hm : m < 3) (hd : 4 ≤ d) {w : MW} {Q : Int32 → MW → Prop} (h : XW w f n nm op e N) (hQ : ∀ y : Int32, Q y w) : (3 ≤ (nI (m + 1)).toInt → pn_Rd_readFactor d w Q) ∧ (¬ 3 ≤ (nI (m + 1)).toInt → pn_Rd_readLevel d w (nI (m + 1)) Q) := by
  have tm : (nI (m + 1)).toInt = ((m + 1 : Nat) : Int) := nI_toInt (by omega)
  refine ⟨fun z => ?_, fun z => ?_⟩
  · rw [show d = (d - 1) + 1 by omega]
    exact w_fac h hQ
  · rw [show d = (d - (2 - (m + 1)) - 2) + (2 - (m + 1)) + 2 by omega]
    exact w_lev h (2 - (m + 1)) (m + 1) _ Q (by omega) hQ
theorem lo_38 {f : Int → Int} {n : Int} {nm : List Nm} {m op d N : Nat} {x4 : Int32} (hm : m < 3) (ho : op ≤ 20) (hF : CFa f n nm d) (hL : CLv f n nm d) (hd : 4 * (21 - op) + (2 - m) ≤ d) (hx : (m = 0 ∧ x4.toInt = 1) ∨ (¬ m = 0 ∧ x4.toInt = 4000)) (K : Nat) : ∀ (j : Nat) (p : Int) (ns : List Nod) (u : Int32) (w : MW) (Q : Int32 → MW → Prop), XS w f n nm op p ns → 0 ≤ u.toInt → (j : Int) ≤ p → (m = 0 → j = 0) → N < ns.length → (∀ (y : Int32) (w' : MW) (r : XR), (∃ k, XP f n (lkn nm) k (m + 4) op u.toInt p ns r) → XO w w' f n nm op N p r y → Q y w') → 4001 - j < K → q_Rd_readLevel_38 (pn_Rd_readFactor d) (pn_Rd_readLevel d) (nI m) (nI (m + 1)) x4 (fun (e38_3_14 : Int32) (e38_5_14 : Int32) (w14 : MW) => ((¬ (nI m).toInt = 0 → (Q e38_3_14 w14)) ∧ (¬ (¬ (nI m).toInt = 0) → ((¬ e38_5_14.toInt = 0 → (Q e38_3_14 w14)) ∧ (¬ (¬ e38_5_14.toInt = 0) → (p_Rd_fail w14  (fun w17 => (Q e38_3_14 w17)))))))) Q K u (nI j) w := by
  induction K with
  | zero => intros; omega
  | succ K ih =>
    intro j p ns u w Q h u0 hj hj0 hN hQ hK
    have tm : (nI m).toInt = (m : Int) := nI_toInt (by omega)
    have n4 := bd_1_2 h.1.1
    have en := h.1.2.2.2.2.2.1
    have pn := h.2.2.2.2.2.2.2
    have hf := xb_f h.1
    have wn := wrd_n (f := f) (n := n) (p := p) hf h.2.2.2.2.2.2.1 pn
    have hw := h.2.2.2.1
    have tj : (nI j).toInt = (j : Int) := nI_toInt (by omega)
    have K0 : KNd N w w := fun _ _ _ _ => ⟨rfl, rfl⟩
    have go : ∀ (r : XR), xlo f n (XP f n (lkn nm) 0) m op u.toInt p ns r → ∃ k, XP f n (lkn nm) k (m + 4) op u.toInt p ns r := fun r hr => ⟨1, by
      rw [XP_u, if_neg (by omega), if_neg (by omega), show m + 4 - 4 = m by omega]
      exact hr⟩
    have gk : ∀ (k : Nat) (r : XR), xlo f n (XP f n (lkn nm) k) m op u.toInt p ns r → ∃ k, XP f n (lkn nm) k (m + 4) op u.toInt p ns r := fun k r hr => ⟨k + 1, by
      rw [XP_u, if_neg (by omega), if_neg (by omega), show m + 4 - 4 = m by omega]
      exact hr⟩
    have stay : ¬ lvo (wrd f n p).1 = m → ¬ m = 0 → Q u w := fun ne m0 => by
      refine hQ u w (true, 0, u.toInt, p, ns) (go _ ?_) ⟨K0, FR.refl _ w, Or.inl ⟨rfl, h, rfl, u0, Int.le_refl _, hN⟩⟩
      unfold xlo
      rw [if_neg ne, if_neg m0]
    -- a wrong state ends the loop
    have wend : ∀ (e : Int) (w' : MW) (r : XR), r.1 = false → r.2.1 = e → (∃ k, XP f n (lkn nm) k (m + 4) op u.toInt p ns r) → KNd N w w' → FR lexp w w' → XW w' f n nm op e N → ∀ (y x : Int32), q_Rd_readLevel_38 (pn_Rd_readFactor d) (pn_Rd_readLevel d) (nI m) (nI (m + 1)) x4 (fun (e38_3_14 : Int32) (e38_5_14 : Int32) (w14 : MW) => ((¬ (nI m).toInt = 0 → (Q e38_3_14 w14)) ∧ (¬ (¬ (nI m).toInt = 0) → ((¬ e38_5_14.toInt = 0 → (Q e38_3_14 w14)) ∧ (¬ (¬ e38_5_14.toInt = 0) → (p_Rd_fail w14  (fun w17 => (Q e38_3_14 w17)))))))) Q K y x w' := fun e w' r r1 r2 hk kn fr xw y x => by
      have q : ∀ y : Int32, Q y w' := fun y => hQ y w' r hk ⟨kn, fr, Or.inr ⟨r1, by rw [r2]; exact xw⟩⟩
      exact w_38 xw ⟨fun _ => q _, fun _ => ⟨fun _ => q _, fun _ => fl_w xw (q _)⟩⟩ K (by omega)
    rw [q_Rd_readLevel_38.eq_2]
    refine ⟨fun z => ?_, fun z => ⟨fun q => by omega, fun _ => lv_x (fun r6 e6 => ⟨fun ne => ?_, fun eq => ?_⟩)⟩⟩
    · rcases hx with ⟨m0, ex⟩ | ⟨m0, ex⟩
      · have := hj0 m0
        omega
      · have p4 : n ≤ p := by omega
        have e32 : (wrd f n p).1 = 32 := by
          have e : wrd f n p = wrq f n (skp f n 4001 p) := rfl
          have kb := skp_b f n 4001 p
          rw [e]
          unfold wrq
          rw [if_pos (by omega)]
        refine ⟨fun _ => stay (by rw [e32]; show ¬ 3 = m; omega) m0, fun q => absurd (by omega) q⟩
    · rw [h.2.1.1] at e6
      have ne' : ¬ lvo (wrd f n p).1 = m := fun c => ne (by rw [e6, c, tm])
      refine ⟨fun q => stay ne' (by omega), fun q => ⟨fun q2 => ?_, fun q2 => fl_g h (fun w' F' X' => ?_)⟩⟩
      · have := hj0 (by omega)
        omega
      · refine hQ u w' (xer (wrd f n p).2.1) (go _ ?_) ⟨KNd.fr F' rfl, FR.tr (FR.refl _ w) F' rfl, Or.inr ⟨rfl, w_mono X' (by omega)⟩⟩
        unfold xlo
        rw [if_neg ne', if_pos (by omega)]
    · rw [h.2.1.1] at e6
      have lv : lvo (wrd f n p).1 = m := by
        have := Classical.not_not.mp eq
        rw [e6, tm] at this
        omega
      have opc := lvo_o lv hm
      have c3 : (w.1 87 3).toInt = (wrd f n p).1 := h.2.1.1
      have c4 : (w.1 87 4).toInt = (wrd f n p).2.1 := h.2.1.2.1
      refine nx_g h.1 hw h.2.1.2.2.1 h.2.2.2.2.1 h.2.2.2.2.2.1 (fun ok w8 F8 X8 => ?_) (fun bad w8 F8 X8 => ?_)
      · have G8 : FR lexp w w8 := FR.tr (FR.refl _ w) F8 rfl
        have K8 : KNd N w w8 := KNd.fr F8 rfl
        have fin : ∀ (y : Int32) (w10 : MW) (r : XR), (∃ k, XP f n (lkn nm) k (m + 1) op 0 (wrd f n p).2.2.1 ns r) → XO w8 w10 f n nm op ns.length (wrd f n p).2.2.1 r y → p_Rd_join w10 (w.1 87 3) (w.1 87 4) u y (fun r11 w11 => (q_Rd_readLevel_38 (pn_Rd_readFactor d) (pn_Rd_readLevel d) (nI m) (nI (m + 1)) x4 (fun (e38_3_14 : Int32) (e38_5_14 : Int32) (w14 : MW) => ((¬ (nI m).toInt = 0 → (Q e38_3_14 w14)) ∧ (¬ (¬ (nI m).toInt = 0) → ((¬ e38_5_14.toInt = 0 → (Q e38_3_14 w14)) ∧ (¬ (¬ e38_5_14.toInt = 0) → (p_Rd_fail w14  (fun w17 => (Q e38_3_14 w17)))))))) Q K r11 ((nI j) + (1 : Int32)) w11)) := fun y w10 r hk hx2 => by
          obtain ⟨k, hk⟩ := hk
          obtain ⟨kn, fr, st⟩ := hx2
          have kn0 : KNd N w w10 := K8.tr (kn.mono (by omega))
          have fr0 : FR lexp w w10 := G8.tr fr rfl
          rcases st with ⟨r1, X10, ey, y0, pp, nn⟩ | ⟨r1, X10⟩
          · have hw10 := X10.2.2.2.1
            refine jn_g hw10 c3 rfl ey u0 y0 (fun neg => ?_) (fun pos x ex => ?_)
            · have F1 : FR [(87, some 9)] w10 (sI w10 87 9 (w.1 87 4)) := FR.I (FR.refl _ w10) rfl
              have XW1 : XW (sI w10 87 9 (w.1 87 4)) f n nm op (wrd f n p).2.1 N := ⟨xb_fr X10.1 F1 (wbd_87_9 X10.1.1) (by rw [(F1 87 2 rfl).1]; exact X10.1.2.2.2.2.2.2.2.2) rfl, by rw [sI_same]; exact c4, wn.2.2.1, by rw [(F1 108 1 rfl).1, X10.2.2.2.2.1.1]; omega, by have := X10.2.2.2.2.2.1; omega⟩
              refine wend _ _ (xer (wrd f n p).2.1) rfl rfl (gk k _ ?_) (kn0.tr (KNd.fr F1 rfl)) (fr0.tr F1 rfl) XW1 _ _
              unfold xlo xgo
              rw [if_pos lv, if_neg ok]
              exact ⟨r, hk, by rw [if_pos r1, if_pos neg]⟩
            · refine mk_g (d := ((wrd f n p).1, 0, 0, [ns.length - 1, r.2.2.2.2.length - 1])) X10 c3 i_0 (by show ¬ (wrd f n p).1 = 31; omega) (fun n300 w11 F11 K11 X11 _ _ _ _ _ _ => ?_) (fun n300 w11 F11 K11 X11 => ?_)
              · have kn1 : KNd N w w11 := kn0.tr (K11.mono (by omega))
                have fr1 : FR lexp w w11 := fr0.tr F11 rfl
                rw [nI_1]
                by_cases m0 : m = 0
                · have j0 := hj0 m0
                  rcases hx with ⟨_, ex4⟩ | ⟨q, _⟩
                  · have t1 : (nI (j + 1)).toInt = 1 := by rw [j0]; decide
                    have res : Q x w11 := by
                      refine hQ x w11 (true, 0, xun (wrd f n p).1 u.toInt r.2.2.1, r.2.2.2.1, r.2.2.2.2 ++ [((wrd f n p).1, 0, 0, [ns.length - 1, r.2.2.2.2.length - 1])]) (gk k _ ?_) ⟨kn1, fr1, Or.inl ⟨rfl, X11, ex, ?_, ?_, ?_⟩⟩
                      · unfold xlo xgo
                        rw [if_pos lv, if_neg ok]
                        exact ⟨r, hk, by rw [if_pos r1, if_neg pos, if_neg n300, if_pos m0]⟩
                      · show 0 ≤ xun (wrd f n p).1 u.toInt r.2.2.1
                        omega
                      · show p ≤ r.2.2.2.1
                        omega
                      · show N < (r.2.2.2.2 ++ [((wrd f n p).1, 0, 0, [ns.length - 1, r.2.2.2.2.length - 1])]).length
                        rw [List.length_append]
                        omega
                    obtain ⟨K', eK⟩ : ∃ K', K = K' + 1 := ⟨K - 1, by omega⟩
                    rw [eK, q_Rd_readLevel_38.eq_2]
                    refine ⟨fun _ => ⟨fun _ => res, fun _ => ⟨fun _ => res, fun q => absurd (by rw [t1]; decide) q⟩⟩, fun q => absurd (by rw [ex4, t1]; decide) q⟩
                  · exact absurd m0 q
                · refine ih (j + 1) r.2.2.2.1 _ x w11 Q X11 (by omega) ?_ (fun z => absurd z m0) (by rw [List.length_append]; omega) (fun y2 w' r' hk' hx' => ?_) (by omega)
                  · have gt : p + 1 ≤ (wrd f n p).2.2.1 := by
                      have e : wrd f n p = wrq f n (skp f n 4001 p) := rfl
                      have kb := skp_b f n 4001 p
                      rw [e] at opc ⊢
                      generalize skp f n 4001 p = q at *
                      unfold wrq at opc ⊢
                      by_cases c1 : n ≤ q
                      · rw [if_pos c1] at opc
                        have o : (32 : Int) = 60 ∨ (32 : Int) = 61 ∨ (32 : Int) = 62 ∨ (32 : Int) = 43 ∨ (32 : Int) = 45 ∨ (32 : Int) = 42 ∨ (32 : Int) = 47 := opc
                        omega
                      · rw [if_neg c1] at opc ⊢
                        by_cases c2 : lt1 (f q) = true
                        · rw [if_pos c2] at opc
                          unfold wrL at opc
                          have kb2 := kwd_b (lts f 12 q)
                          by_cases c3 : bd1 (f (q + ((lts f 12 q).length : Int))) = true
                          · rw [if_pos c3] at opc
                            have o : (33 : Int) = 60 ∨ (33 : Int) = 61 ∨ (33 : Int) = 62 ∨ (33 : Int) = 43 ∨ (33 : Int) = 45 ∨ (33 : Int) = 42 ∨ (33 : Int) = 47 := opc
                            omega
                          · rw [if_neg c3] at opc
                            have o : kwd (lts f 12 q) = 60 ∨ kwd (lts f 12 q) = 61 ∨ kwd (lts f 12 q) = 62 ∨ kwd (lts f 12 q) = 43 ∨ kwd (lts f 12 q) = 45 ∨ kwd (lts f 12 q) = 42 ∨ kwd (lts f 12 q) = 47 := opc
                            omega
                        · rw [if_neg c2] at opc ⊢
                          by_cases c4' : dg1 (f q) = true
                          · rw [if_pos c4'] at opc
                            unfold wrN at opc
                            by_cases c5 : bd1 (f (dgn f q)) = true
                            · rw [if_pos c5] at opc
                              have o : (33 : Int) = 60 ∨ (33 : Int) = 61 ∨ (33 : Int) = 62 ∨ (33 : Int) = 43 ∨ (33 : Int) = 45 ∨ (33 : Int) = 42 ∨ (33 : Int) = 47 := opc
                              omega
                            · rw [if_neg c5] at opc
                              have o : (31 : Int) = 60 ∨ (31 : Int) = 61 ∨ (31 : Int) = 62 ∨ (31 : Int) = 43 ∨ (31 : Int) = 45 ∨ (31 : Int) = 42 ∨ (31 : Int) = 47 := opc
                              omega
                          · rw [if_neg c4']
                            by_cases c6 : mk1 (f q) = true
                            · rw [if_pos c6]
                              show p + 1 ≤ q + 1
                              omega
                            · rw [if_neg c6]
                              show p + 1 ≤ q + 1
                              omega
                    omega
                  · obtain ⟨k', hk'⟩ := hk'
                    obtain ⟨kn', fr', st'⟩ := hx'
                    rw [ex] at hk'
                    refine hQ y2 w' r' (gk (max k k') r' ?_) ⟨kn1.tr kn', fr1.tr fr' rfl, ?_⟩
                    · unfold xlo xgo
                      rw [if_pos lv, if_neg ok]
                      refine ⟨r, XP_le (Nat.le_max_left k k') _ _ _ _ _ _ hk, ?_⟩
                      rw [if_pos r1, if_neg pos, if_neg n300, if_neg m0]
                      exact XP_le (Nat.le_max_right k k') _ _ _ _ _ _ hk'
                    · rcases st' with ⟨a1, a2, a3, a4, a5, a6⟩ | a
                      · exact Or.inl ⟨a1, a2, a3, a4, by omega, a6⟩
                      · exact Or.inr a
              · refine wend _ w11 (xer (wrd f n r.2.2.2.1).2.1) rfl rfl (gk k _ ?_) (kn0.tr (K11.mono (by omega))) (fr0.tr F11 rfl) (w_mono X11 (by omega)) _ _
                unfold xlo xgo
                rw [if_pos lv, if_neg ok]
                exact ⟨r, hk, by rw [if_pos r1, if_neg pos, if_pos n300]⟩
          · refine w_join X10 (wend _ w10 r r1 rfl (gk k _ ?_) kn0 fr0 (w_mono X10 (by omega)) _ _)
            unfold xlo xgo
            rw [if_pos lv, if_neg ok]
            exact ⟨r, hk, by rw [if_neg (nt r1)]⟩
        have o := opd (Q := fun y w10 => p_Rd_join w10 (w.1 87 3) (w.1 87 4) u y (fun r11 w11 => (q_Rd_readLevel_38 (pn_Rd_readFactor d) (pn_Rd_readLevel d) (nI m) (nI (m + 1)) x4 (fun (e38_3_14 : Int32) (e38_5_14 : Int32) (w14 : MW) => ((¬ (nI m).toInt = 0 → (Q e38_3_14 w14)) ∧ (¬ (¬ (nI m).toInt = 0) → ((¬ e38_5_14.toInt = 0 → (Q e38_3_14 w14)) ∧ (¬ (¬ e38_5_14.toInt = 0) → (p_Rd_fail w14  (fun w17 => (Q e38_3_14 w17)))))))) Q K r11 ((nI j) + (1 : Int32)) w11))) hm ho hF hL hd X8 fin
        exact o
      · have G8 : FR lexp w w8 := FR.tr (FR.refl _ w) F8 rfl
        have XN := w_mono X8 (show N ≤ ns.length by omega)
        have hk : ∃ k, XP f n (lkn nm) k (m + 4) op u.toInt p ns (xer (wrd f n (wrd f n p).2.2.1).2.1) := go _ (by
          unfold xlo xgo
          rw [if_pos lv, if_pos bad])
        exact opw hm (by omega) XN (fun y => w_join XN (wend _ w8 _ rfl rfl hk (KNd.fr F8 rfl) G8 XN _ _))
