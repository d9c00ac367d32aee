/-! the reference reads declarations -/
theorem tl_49 {w0 : MW} {b A : Nat} {l : List Int} {x1 x2 : Int32} {E : MW → Prop} {Q : Int32 → MW → Prop} (hs : SgM w0 b l) (hA : x2.toInt = (A : Int)) (A8 : A < 80) (l12 : l.length ≤ 12) (lb : ∀ c ∈ l, -128 ≤ c ∧ c ≤ 127) (hE : ∀ w', BND w' → FR [(139, none)] w0 w' → (∀ (k : Nat) (c : Int), l[k]? = some c → (w'.1 139 (12 * A + k)).toInt = c) → (∀ j : Nat, (j < 12 * A ∨ 12 * A + 12 ≤ j) → w'.1 139 j = w0.1 139 j) → E w') (m : Nat) : ∀ (j : Nat) (w : MW), BND w → FR [(139, none)] w0 w → j ≤ l.length → (∀ (k : Nat) (c : Int), k < j → l[k]? = some c → (w.1 139 (12 * A + k)).toInt = c) → (∀ i : Nat, (i < 12 * A ∨ 12 * A + 12 ≤ i) → w.1 139 i = w0.1 139 i) → l.length - j < m → q_Tx_tell_49 x1 x2 E Q m (nI (b + j)) w := by
  induction m with
  | zero => intros; omega
  | succ m ih =>
    intro j w hI hF hj hk ho hm
    have b4 := hs.2.2.1
    have e5 : (w.1 129 5).toInt = (b : Int) := by rw [(hF 129 5 rfl).1]; exact hs.1
    have e6 : (w.1 129 6).toInt = ((b + l.length : Nat) : Int) := by rw [(hF 129 6 rfl).1]; exact hs.2.1
    have tj : (nI (b + j)).toInt = ((b + j : Nat) : Int) := nI_toInt (by omega)
    have tn : (nI (b + j)).toInt.toNat = b + j := by omega
    have s12 := ti_mul2 (show (12 : Int32).toInt = 12 by decide) hA (by omega) (by omega)
    have sA := ti_add2 s12 tj (by omega) (by omega)
    have sB := ti_sub2 sA e5 (by omega) (by omega)
    rw [q_Tx_tell_49.eq_2, tn]
    refine ⟨fun c => hE w hI hF (fun k c hc => hk k c (by have := (List.getElem?_eq_some_iff.mp hc).1; omega) hc) ho, fun c => ⟨⟨by omega, by omega⟩, ⟨by omega, by omega⟩, ?_⟩⟩
    have jl : j < l.length := by omega
    have g := hs.2.2.2 j _ (List.getElem?_eq_getElem jl)
    have lj := lb _ (List.getElem_mem jl)
    have e130 : (w.1 130 (b + j)).toInt = l[j] := by rw [(hF 130 (b + j) rfl).1]; exact g
    have ev := nb_byteq (x := w.1 130 (b + j)) (by omega) (by omega)
    have ix : (((((12 : Int32) * x2) + (nI (b + j))) - (w.1 129 5)).toInt.toNat) = 12 * A + j := by omega
    rw [ix, nI_1]
    refine ih (j + 1) _ (wbd_139 hI _ (by omega) (by omega)) (FR.I hF rfl) jl (fun k c hc hkc => ?_) (fun i hi => ?_) (by omega)
    · by_cases q : k = j
      · rw [q] at hkc ⊢
        rw [sI_same, ev, e130]
        rw [List.getElem?_eq_getElem jl] at hkc
        exact Option.some.inj hkc
      · rw [sI_ne _ _ _ _ _ (by omega)]
        exact hk k c (by omega) hkc
    · rw [sI_ne _ _ _ _ _ (by omega)]
      exact ho i hi
theorem wrd_b {f : Int → Int} {n p : Int} (k : (wrd f n p).1 ≤ 30) : ∀ c ∈ (wrd f n p).2.2.2.1, -128 ≤ c ∧ c ≤ 127 := fun c hc => by
  rcases (wrd_l k).1 c hc with t | t <;> omega
/-- a new name -/
theorem y_tell {w : MW} {f : Int → Int} {n : Int} {nm : List Nm} {op : Nat} {e p c : Int} {ns : List Nod} {a : Int32} {Q : Int32 → MW → Prop} (h : YS w f n nm op e p ns) (c8 : c = 8 ∨ c = 9 ∨ c = 10) (ha : a.toInt = mrl c) (hb : ¬ ((wrd f n p).1 = 30 ∧ (lki (wrd f n p).2.2.2.1 nm 0).1 < 0 ∧ nm.length < 40) → ∀ w', (w'.1 129 10).toInt = (wrd f n p).2.1 → Q (-1) w') (hg : (wrd f n p).1 = 30 ∧ (lki (wrd f n p).2.2.2.1 nm 0).1 < 0 ∧ nm.length < 40 → ∀ (r : Int32) (w' : MW), r.toInt = (nm.length : Int) → YS w' f n (nm ++ [((wrd f n p).2.2.2.1, c, 0, -1)]) op e p ns → KX w w' → FR [(129, some 24), (139, none), (140, none), (141, none), (142, none), (143, none)] w w' → Q r w') : p_Tx_tell w a Q := by
  have hI := h.1.1.1
  have bad : ¬ ((wrd f n p).1 = 30 ∧ (lki (wrd f n p).2.2.2.1 nm 0).1 < 0 ∧ nm.length < 40) → p_Tx_bad w (fun r3 w3 => (Q r3 w3)) := fun no => y_bad h (hb no)
  have n0 := h.1.2.2.1.1
  have n4 := h.1.2.2.1.2.1
  have bh := bhf_b hI
  refine Eq.mpr (p_Tx_tell.eq_1 _ _ _) (y_isn h (fun k30 => ⟨fun z => absurd z i1n, fun _ => mn_x hI h.1.2.2.1 (y_sg h (Or.inl k30)) (fun no => ⟨fun z => absurd z (by decide), fun _ => ⟨fun c40 => ?_, fun c40 => bad (fun z => by have := Classical.not_not.mp c40; omega)⟩⟩) (fun j x hx ex el => ⟨fun _ => bad (fun z => ?_), fun z => ?_⟩)⟩) (fun n30 => ⟨fun _ => bad (fun z => n30 z.1), fun z => absurd i_0 z⟩))
  · have sg := y_sg h (Or.inl k30)
    have yes : (wrd f n p).1 = 30 ∧ (lki (wrd f n p).2.2.2.1 nm 0).1 < 0 ∧ nm.length < 40 := ⟨k30, by rw [no]; decide, by omega⟩
    have wl := wrd_l (f := f) (n := n) (p := p) (by omega)
    have ei := cc_ix (n := w.1 129 24) hI (by omega) (by omega)
    have eA : (((40 : Int32) * ((1 : Int32) - (w.1 129 12))) + (w.1 129 24)).toInt = (((40 * bhf w + (nm.length : Int)).toNat : Nat) : Int) := by omega
    have e5 : w.1 129 5 = nI ((wrd f n p).2.1.toNat + 0) := by
      have t := nI_tn (a := w.1 129 5) (by rw [sg.1]; omega)
      rw [sg.1] at t
      exact t.symm
    have b8 := sg.2.2.1
    have s24 := ti_add2 n0 i_1 (by omega) (by omega)
    have t24 := ti_sub2 s24 i_1 (by omega) (by omega)
    have sd := ti_sub2 sg.2.1 sg.1 (by omega) (by omega)
    have GO := tl_49 (x1 := a) (Q := Q) (E := fun (w11 : MW) => ((0 ≤ (((40 : Int32) * ((1 : Int32) - (w.1 129 12))) + (w.1 129 24)).toInt ∧ (((40 : Int32) * ((1 : Int32) - (w.1 129 12))) + (w.1 129 24)).toInt < 80) ∧ ((0 ≤ (((40 : Int32) * ((1 : Int32) - (w.1 129 12))) + (w.1 129 24)).toInt ∧ (((40 : Int32) * ((1 : Int32) - (w.1 129 12))) + (w.1 129 24)).toInt < 80) ∧ ((0 ≤ (((40 : Int32) * ((1 : Int32) - (w.1 129 12))) + (w.1 129 24)).toInt ∧ (((40 : Int32) * ((1 : Int32) - (w.1 129 12))) + (w.1 129 24)).toInt < 80) ∧ ((0 ≤ (((40 : Int32) * ((1 : Int32) - (w.1 129 12))) + (w.1 129 24)).toInt ∧ (((40 : Int32) * ((1 : Int32) - (w.1 129 12))) + (w.1 129 24)).toInt < 80) ∧ (Q (((w11.1 129 24) + (1 : Int32)) - (1 : Int32)) (sI (sI (sI (sI (sI w11 140 ((((40 : Int32) * ((1 : Int32) - (w.1 129 12))) + (w.1 129 24)).toInt.toNat) ((w11.1 129 6) - (w11.1 129 5))) 141 ((((40 : Int32) * ((1 : Int32) - (w.1 129 12))) + (w.1 129 24)).toInt.toNat) a) 142 ((((40 : Int32) * ((1 : Int32) - (w.1 129 12))) + (w.1 129 24)).toInt.toNat) 0) 143 ((((40 : Int32) * ((1 : Int32) - (w.1 129 12))) + (w.1 129 24)).toInt.toNat) (-1)) 129 24 ((w11.1 129 24) + (1 : Int32)))))))))
      sg eA (by omega) wl.2 (wrd_b (by omega)) (fun w11 I11 F11 k11 o11 => ?_) FU 0 w hI (FR.refl _ w) (Nat.zero_le _) (fun k c hk => absurd hk (Nat.not_lt_zero _)) (fun _ _ => rfl) (Nat.lt_of_le_of_lt (show _ ≤ 12 by have := wl.2; omega) (fu_lt (by decide)))
    · rw [← e5] at GO
      exact GO
    · have f24 : w11.1 129 24 = w.1 129 24 := (F11 129 24 rfl).1
      have f5 : w11.1 129 5 = w.1 129 5 := (F11 129 5 rfl).1
      have f6 : w11.1 129 6 = w.1 129 6 := (F11 129 6 rfl).1
      refine ⟨⟨by omega, by omega⟩, ⟨by omega, by omega⟩, ⟨by omega, by omega⟩, ⟨by omega, by omega⟩, ?_⟩
      rw [f24, f5, f6]
      have X0 : (((40 : Int32) * ((1 : Int32) - (w.1 129 12))) + (w.1 129 24)).toInt.toNat = (40 * bhf w + (nm.length : Int)).toNat := by omega
      rw [X0]
      generalize hX : (40 * bhf w + (nm.length : Int)).toNat = X at *
      have X1 : (X : Int) = 40 * bhf w + (nm.length : Int) := by omega
      have hB : BND (sI (sI (sI (sI (sI w11 140 X ((w.1 129 6) - (w.1 129 5))) 141 X a) 142 X 0) 143 X (-1)) 129 24 ((w.1 129 24) + (1 : Int32))) := wbd_129_24 (wbd_143 (wbd_142 (wbd_141 (wbd_140 I11 X (by omega) (by have := wl.2; omega)) X) X (by decide) (by decide)) X (by decide) (by decide)) (by omega) (by omega)
      have hF : FR [(129, some 24), (139, none), (140, none), (141, none), (142, none), (143, none)] w (sI (sI (sI (sI (sI w11 140 X ((w.1 129 6) - (w.1 129 5))) 141 X a) 142 X 0) 143 X (-1)) 129 24 ((w.1 129 24) + (1 : Int32))) := FR.I (FR.I (FR.I (FR.I (FR.I ((FR.refl _ w).tr F11 rfl) rfl) rfl) rfl) rfl) rfl
      have r24 : ((sI (sI (sI (sI (sI w11 140 X ((w.1 129 6) - (w.1 129 5))) 141 X a) 142 X 0) 143 X (-1)) 129 24 ((w.1 129 24) + (1 : Int32))).1 129 24) = (w.1 129 24) + (1 : Int32) := rfl
      have r139 : ∀ j, (sI (sI (sI (sI (sI w11 140 X ((w.1 129 6) - (w.1 129 5))) 141 X a) 142 X 0) 143 X (-1)) 129 24 ((w.1 129 24) + (1 : Int32))).1 139 j = w11.1 139 j := fun j => rfl
      have r140 : ∀ j, (sI (sI (sI (sI (sI w11 140 X ((w.1 129 6) - (w.1 129 5))) 141 X a) 142 X 0) 143 X (-1)) 129 24 ((w.1 129 24) + (1 : Int32))).1 140 j = (sI w11 140 X ((w.1 129 6) - (w.1 129 5))).1 140 j := fun j => rfl
      have r141 : ∀ j, (sI (sI (sI (sI (sI w11 140 X ((w.1 129 6) - (w.1 129 5))) 141 X a) 142 X 0) 143 X (-1)) 129 24 ((w.1 129 24) + (1 : Int32))).1 141 j = (sI w11 141 X a).1 141 j := fun j => rfl
      have r142 : ∀ j, (sI (sI (sI (sI (sI w11 140 X ((w.1 129 6) - (w.1 129 5))) 141 X a) 142 X 0) 143 X (-1)) 129 24 ((w.1 129 24) + (1 : Int32))).1 142 j = (sI w11 142 X 0).1 142 j := fun j => rfl
      have r143 : ∀ j, (sI (sI (sI (sI (sI w11 140 X ((w.1 129 6) - (w.1 129 5))) 141 X a) 142 X 0) 143 X (-1)) 129 24 ((w.1 129 24) + (1 : Int32))).1 143 j = (sI w11 143 X (-1)).1 143 j := fun j => rfl
      generalize (sI (sI (sI (sI (sI w11 140 X ((w.1 129 6) - (w.1 129 5))) 141 X a) 142 X 0) 143 X (-1)) 129 24 ((w.1 129 24) + (1 : Int32))) = w' at *
      have eb : bhf w' = bhf w := by unfold bhf; rw [(hF 129 12 rfl).1]
      refine hg yes _ w' (by rw [t24]; omega) ⟨⟨yj_fr h.1.1 hF hB rfl, txm_fr h.1.2.1 hF rfl, ⟨?_, ?_, fun i x hx => ?_⟩, by rw [(hF 129 11 rfl).1]; exact h.1.2.2.2⟩, ?_, h.2.2.1, pnm_k h.2.2.2.1 (KNm.fr hF rfl) hI (hF 129 13 rfl).1, h.2.2.2.2⟩ (KX.fr hF rfl) hF
      · rw [r24, s24, List.length_append, List.length_singleton]
        omega
      · rw [List.length_append, List.length_singleton]
        omega
      · rw [eb]
        rcases app_get hx with q | ⟨q, q2⟩
        · have il := (List.getElem?_eq_some_iff.mp q).1
          have g := h.1.2.2.1.2.2 i x q
          have ne : (40 * bhf w + (i : Int)).toNat ≠ X := by omega
          rw [r140, sI_ne _ _ _ _ _ ne, (F11 140 _ rfl).1, r141, sI_ne _ _ _ _ _ ne, (F11 141 _ rfl).1, r142, sI_ne _ _ _ _ _ ne, (F11 142 _ rfl).1, r143, sI_ne _ _ _ _ _ ne, (F11 143 _ rfl).1]
          refine ⟨g.1, g.2.1, fun k cc hk => ?_, g.2.2.2⟩
          have kl := (List.getElem?_eq_some_iff.mp hk).1
          have x12 := g.2.1
          rw [r139, o11 _ (Or.inl (by omega))]
          exact g.2.2.1 k cc hk
        · have ex : (40 * bhf w + (i : Int)).toNat = X := by rw [q]; exact hX
          rw [ex, r140, sI_same, r141, sI_same, r142, sI_same, r143, sI_same, q2]
          refine ⟨by rw [sd]; show _ = ((wrd f n p).2.2.2.1.length : Int); omega, wl.2, fun k cc hk => ?_, ha, i_0, ?_, c8⟩
          · rw [r139, show (12 * (40 * bhf w + (i : Int)) + (k : Int)).toNat = 12 * X + k by rw [q]; omega]
            exact k11 k cc hk
          · show (-1 : Int32).toInt = (if (-1 : Int) < 0 then -1 else -1 + 1)
            decide
      · have t := h.2.1
        unfold TkM at t ⊢
        rw [(hF 129 4 rfl).1, (hF 129 5 rfl).1, (hF 129 2 rfl).1, (hF 129 6 rfl).1, (hF 129 8 rfl).2.1, (hF 129 9 rfl).1]
        exact t
  · have z2 := z.2.1
    rw [el] at z2
    have z3 : (j : Int) < 0 := z2
    omega
  · have jl := (List.getElem?_eq_some_iff.mp hx).1
    exact absurd (show 0 ≤ (nI j).toInt by rw [nI_toInt (by omega)]; omega) z
/-- the unit of the name that was told last -/
theorem y_setu {w : MW} {f : Int → Int} {n : Int} {nm : List Nm} {op : Nat} {e p c : Int} {l : List Int} {ns : List Nod} {u : Int32} {X : Nat} (h : YS w f n (nm ++ [(l, c, 0, -1)]) op e p ns) (hX : (X : Int) = 40 * bhf w + (nm.length : Int)) (u0 : 0 ≤ u.toInt) (u5 : u.toInt ≤ 5) : YS (sI w 142 X u) f n (nm ++ [(l, c, u.toInt, -1)]) op e p ns ∧ KX w (sI w 142 X u) := by
  have F : FR [(142, none)] w (sI w 142 X u) := FR.I (FR.refl _ w) rfl
  have hB : BND (sI w 142 X u) := wbd_142 h.1.1.1 X u0 u5
  have eb : bhf (sI w 142 X u) = bhf w := by unfold bhf; rw [(F 129 12 rfl).1]
  have N := h.1.2.2.1
  have len : ∀ y : Nm, (nm ++ [y]).length = nm.length + 1 := fun y => by rw [List.length_append, List.length_singleton]
  refine ⟨⟨⟨yj_fr h.1.1 F hB rfl, txm_fr h.1.2.1 F rfl, ⟨?_, ?_, fun i x hx => ?_⟩, by rw [(F 129 11 rfl).1]; exact h.1.2.2.2⟩, ?_, h.2.2.1, pnm_k h.2.2.2.1 (KNm.fr F rfl) h.1.1.1 (F 129 13 rfl).1, h.2.2.2.2⟩, KX.fr F rfl⟩
  · have t := N.1
    rw [(F 129 24 rfl).1, len]
    rw [len] at t
    exact t
  · have t := N.2.1
    rw [len] at t ⊢
    exact t
  · rw [eb, (F 140 _ rfl).1, (F 141 _ rfl).1, (F 143 _ rfl).1]
    rcases app_get hx with q | ⟨q, q2⟩
    · have il := (List.getElem?_eq_some_iff.mp q).1
      have g := N.2.2 i x (by rw [List.getElem?_append_left il]; exact q)
      have bh := bhf_b h.1.1.1
      rw [sI_ne _ _ _ _ _ (show (40 * bhf w + (i : Int)).toNat ≠ X by omega)]
      exact ⟨g.1, g.2.1, fun k cc hk => by rw [(F 139 _ rfl).1]; exact g.2.2.1 k cc hk, g.2.2.2⟩
    · have g := N.2.2 i (l, c, 0, -1) (by rw [q, List.getElem?_append_right (Nat.le_refl _), Nat.sub_self]; rfl)
      have bh := bhf_b h.1.1.1
      rw [show (40 * bhf w + (i : Int)).toNat = X by rw [q]; omega, sI_same, q2]
      rw [show (40 * bhf w + (i : Int)).toNat = X by rw [q]; omega] at g
      exact ⟨g.1, g.2.1, fun k cc hk => by rw [(F 139 _ rfl).1]; exact g.2.2.1 k cc hk, g.2.2.2.1, rfl, g.2.2.2.2.2⟩
  · have t := h.2.1
    unfold TkM at t ⊢
    rw [(F 129 4 rfl).1, (F 129 5 rfl).1, (F 129 2 rfl).1, (F 129 6 rfl).1, (F 129 8 rfl).2.1, (F 129 9 rfl).1]
    exact t
/-- the node of the step that was told last -/
theorem y_sets {w : MW} {f : Int → Int} {n : Int} {nm : List Nm} {op : Nat} {e p : Int} {l : List Int} {ns : List Nod} {r : Int32} {X : Nat} (h : YS w f n (nm ++ [(l, 10, 0, -1)]) op e p ns) (hX : (X : Int) = 40 * bhf w + (nm.length : Int)) (r0 : 1 ≤ r.toInt) (r9 : r.toInt ≤ 299) : YS (sI w 143 X r) f n (nm ++ [(l, 10, 0, r.toInt - 1)]) op e p ns ∧ KX w (sI w 143 X r) := by
  have F : FR [(143, none)] w (sI w 143 X r) := FR.I (FR.refl _ w) rfl
  have hB : BND (sI w 143 X r) := wbd_143 h.1.1.1 X (by omega) r9
  have eb : bhf (sI w 143 X r) = bhf w := by unfold bhf; rw [(F 129 12 rfl).1]
  have N := h.1.2.2.1
  have len : ∀ y : Nm, (nm ++ [y]).length = nm.length + 1 := fun y => by rw [List.length_append, List.length_singleton]
  refine ⟨⟨⟨yj_fr h.1.1 F hB rfl, txm_fr h.1.2.1 F rfl, ⟨?_, ?_, fun i x hx => ?_⟩, by rw [(F 129 11 rfl).1]; exact h.1.2.2.2⟩, ?_, h.2.2.1, pnm_k h.2.2.2.1 (KNm.fr F rfl) h.1.1.1 (F 129 13 rfl).1, h.2.2.2.2⟩, KX.fr F rfl⟩
  · have t := N.1
    rw [(F 129 24 rfl).1, len]
    rw [len] at t
    exact t
  · have t := N.2.1
    rw [len] at t ⊢
    exact t
  · rw [eb, (F 140 _ rfl).1, (F 141 _ rfl).1, (F 142 _ rfl).1]
    rcases app_get hx with q | ⟨q, q2⟩
    · have il := (List.getElem?_eq_some_iff.mp q).1
      have g := N.2.2 i x (by rw [List.getElem?_append_left il]; exact q)
      have bh := bhf_b h.1.1.1
      rw [sI_ne _ _ _ _ _ (show (40 * bhf w + (i : Int)).toNat ≠ X by omega)]
      exact ⟨g.1, g.2.1, fun k cc hk => by rw [(F 139 _ rfl).1]; exact g.2.2.1 k cc hk, g.2.2.2⟩
    · have g := N.2.2 i (l, 10, 0, -1) (by rw [q, List.getElem?_append_right (Nat.le_refl _), Nat.sub_self]; rfl)
      have bh := bhf_b h.1.1.1
      rw [show (40 * bhf w + (i : Int)).toNat = X by rw [q]; omega, sI_same, q2]
      rw [show (40 * bhf w + (i : Int)).toNat = X by rw [q]; omega] at g
      refine ⟨g.1, g.2.1, fun k cc hk => by rw [(F 139 _ rfl).1]; exact g.2.2.1 k cc hk, g.2.2.2.1, g.2.2.2.2.1, ?_, g.2.2.2.2.2.2⟩
      show r.toInt = (if r.toInt - 1 < 0 then -1 else r.toInt - 1 + 1)
      rw [if_neg (by omega)]
      omega
  · have t := h.2.1
    unfold TkM at t ⊢
    rw [(F 129 4 rfl).1, (F 129 5 rfl).1, (F 129 2 rfl).1, (F 129 6 rfl).1, (F 129 8 rfl).2.1, (F 129 9 rfl).1]
    exact t
