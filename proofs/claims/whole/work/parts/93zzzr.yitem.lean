/-! the reference reads statements: the pieces -/
/-- inside of a statement: its kids lie on the pile from lo on -/
def YZ (w : MW) (f : Int → Int) (n : Int) (nm : List Nm) (op : Nat) (e lo : Int) (s : ZS) : Prop := YS w f n nm op e s.1 s.2.1 ∧ PiL w lo s.2.2.2.1 ∧ (w.1 129 38).toInt = s.2.2.1 ∧ 0 ≤ s.2.2.1 ∧ s.2.2.1 ≤ (s.2.1.length : Int)
def KY (lo : Int) (w w' : MW) : Prop := KNm w w' ∧ ∀ k : Int, 0 ≤ k → k < lo → w'.1 144 k.toNat = w.1 144 k.toNat
theorem KY.tr {lo : Int} {w w1 w2 : MW} (h : KY lo w w1) (h2 : KY lo w1 w2) : KY lo w w2 := ⟨h.1.tr h2.1, fun k k0 k1 => (h2.2 k k0 k1).trans (h.2 k k0 k1)⟩
theorem KY.refl (lo : Int) (w : MW) : KY lo w w := ⟨KNm.refl w, fun _ _ _ => rfl⟩
theorem pil_kx {w w' : MW} {lo : Int} {l : List Nat} (h : PiL w lo l) (K : KX w w') : PiL w' lo l := by
  have e := h.1
  have l0 := h.2.1
  refine ⟨by rw [K.2.1]; exact e, l0, fun k c hk => ?_⟩
  have lk := (List.getElem?_eq_some_iff.mp hk).1
  rw [K.2.2.1 (lo + (k : Int)) (by omega) (by omega)]
  exact h.2.2 k c hk
theorem ky_kx {w w' : MW} {lo : Int} {l : List Nat} (h : PiL w lo l) (K : KX w w') : KY lo w w' := by
  have e := h.1
  exact ⟨K.1, fun k k0 k1 => K.2.2.1 k k0 (by omega)⟩
theorem yz_kx {w w' : MW} {f : Int → Int} {n : Int} {nm : List Nm} {op : Nat} {e lo q : Int} {s : ZS} (h : YZ w f n nm op e lo s) (Y' : YS w' f n nm op e q s.2.1) (K : KX w w') (A : Int × Int × Int) : YZ w' f n nm op e lo (q, s.2.1, s.2.2.1, s.2.2.2.1, A) ∧ KY lo w w' :=
  ⟨⟨Y', pil_kx h.2.1 K, by rw [K.2.2.2]; exact h.2.2.1, h.2.2.2.1, h.2.2.2.2⟩, ky_kx h.2.1 K⟩
/-- a word that must stand here -/
theorem yi_tk {w : MW} {f : Int → Int} {n : Int} {nm : List Nm} {op : Nat} {e lo c : Int} {s : ZS} {a : Int32} {Q : Int32 → MW → Prop} (h : YZ w f n nm op e lo s) (hc : ∀ q, ¬ (wrd f n q).1 = 33 → (tkm (wrd f n q).1 = a.toInt ↔ (wrd f n q).1 = c)) (hb : ∀ (w' : MW) (r : ZR), ZI f n (lkn nm) op 0 c s r → r.1 = false → (w'.1 129 10).toInt = r.2.1 → Q 0 w') (hg : ∀ (w' : MW) (s' : ZS), ZI f n (lkn nm) op 0 c s (zok s') → s' = ((wrd f n s.1).2.2.1, s.2) → s.1 ≤ s'.1 → YZ w' f n nm op e lo s' → KY lo w w' → Q 1 w') : p_Tx_over w a Q := by
  refine y_over h.1 (hc s.1 h.1.2.2.1) (fun k ok w' F' Y' K' pn => ?_) (fun k bad w' e' => hb w' (zer (wrd f n (wrd f n s.1).2.2.1).2.1) (ZI_0 (by unfold ztk zgo; rw [if_pos k, if_pos bad])) rfl e') (fun no w' e' => hb w' (zer (wrd f n s.1).2.1) (ZI_0 (by unfold ztk; rw [if_neg no])) rfl e')
  have t := yz_kx h Y' K' s.2.2.2.2
  exact hg w' ((wrd f n s.1).2.2.1, s.2) (ZI_0 (by unfold ztk zgo; rw [if_pos k, if_neg ok])) rfl pn t.1 t.2
/-- the word that stands here -/
theorem yi_go {w : MW} {f : Int → Int} {n : Int} {nm : List Nm} {op : Nat} {e lo c : Int} {s : ZS} {Q : Int32 → MW → Prop} (h : YZ w f n nm op e lo s) (k : (wrd f n s.1).1 = c) (hb : ∀ (w' : MW) (r : ZR), ZI f n (lkn nm) op 0 c s r → r.1 = false → (w'.1 129 10).toInt = r.2.1 → Q 0 w') (hg : ∀ (w' : MW) (s' : ZS), ZI f n (lkn nm) op 0 c s (zok s') → s' = ((wrd f n s.1).2.2.1, s.2) → s.1 ≤ s'.1 → YZ w' f n nm op e lo s' → KX w w' → KY lo w w' → Q 1 w') : p_Tx_go w Q := by
  refine y_go h.1 (fun ok w' F' Y' K' pn => ?_) (fun bad w' e' => hb w' (zer (wrd f n (wrd f n s.1).2.2.1).2.1) (ZI_0 (by unfold ztk zgo; rw [if_pos k, if_pos bad])) rfl e')
  have t := yz_kx h Y' K' s.2.2.2.2
  exact hg w' ((wrd f n s.1).2.2.1, s.2) (ZI_0 (by unfold ztk zgo; rw [if_pos k, if_neg ok])) rfl pn t.1 K' t.2
/-- a name of a kind -/
theorem yi_kn {w : MW} {f : Int → Int} {n : Int} {nm : List Nm} {op : Nat} {e lo c : Int} {s : ZS} {a : Int32} {Q : Int32 → MW → Prop} (h : YZ w f n nm op e lo s) (c8 : c = 8 ∨ c = 9 ∨ c = 10) (ha : a.toInt = mrl c) (hb : ∀ (w' : MW) (r : ZR), ZI f n (lkn nm) op 1 c s r → r.1 = false → (w'.1 129 10).toInt = r.2.1 → Q (-1) w') (hg : ∀ (w' : MW) (s' : ZS) (j : Nat) (x : Nm), nm[j]? = some x → ZI f n (lkn nm) op 1 c s (zok s') → s' = ((wrd f n s.1).2.2.1, s.2.1, s.2.2.1, s.2.2.2.1, (j : Int), x.2.2.1, x.2.2.2) → s.1 ≤ s'.1 → YZ w' f n nm op e lo s' → KY lo w w' → Q (nI j) w') : p_Tx_known w a Q := by
  have hB := h.1.1.1.1
  have bad : ¬ ((wrd f n s.1).1 = 30 ∧ 0 ≤ (lkn nm (wrd f n s.1).2.2.2.1).1 ∧ (lkn nm (wrd f n s.1).2.2.2.1).2.1 = c) → p_Tx_bad w (fun r4 w4 => (Q r4 w4)) := fun no => y_bad h.1 (fun w' e' => hb w' (zer (wrd f n s.1).2.1) (ZI_1 (by unfold znm; rw [if_neg no])) rfl e')
  have neg : ¬ ((wrd f n s.1).1 = 30 ∧ 0 ≤ (lkn nm (wrd f n s.1).2.2.2.1).1 ∧ (lkn nm (wrd f n s.1).2.2.2.1).2.1 = c) → q_Tx_known_16 a (-1) w Q := fun no => Eq.mpr (q_Tx_known_16.eq_1 _ _ _ _) ⟨fun _ => bad no, fun z => absurd (show (-1 : Int32).toInt < 0 by decide) z⟩
  refine Eq.mpr (p_Tx_known.eq_1 _ _ _) (y_isn h.1 (fun k30 => ⟨fun z => absurd z i1n, fun _ => mn_x hB h.1.1.2.2.1 (y_sg h.1 (Or.inl k30)) (fun no => neg ?_) (fun j x hx ex el => ?_)⟩) (fun n30 => ⟨fun _ => neg (fun z => n30 z.1), fun z => absurd i_0 z⟩))
  · intro z
    have t := z.2.1
    unfold lkn at t
    rw [no] at t
    have t' : (0 : Int) ≤ (if ((0 : Int) = 10 ∧ (0 : Int) < 0) then ((-1, 0, 0, 0) : Int × Int × Int × Int) else (-1, 0, 0, 0)).1 := t
    rw [if_neg (by decide)] at t'
    exact absurd t' (by decide)
  · have n4 := h.1.1.2.2.1.2.1
    have jl := (List.getElem?_eq_some_iff.mp hx).1
    have tj : (nI j).toInt = (j : Int) := nI_toInt (by omega)
    have bh := bhf_b hB
    have ei := cc_ix (n := nI j) hB (by omega) (by omega)
    have g := h.1.1.2.2.1.2.2 j x hx
    have eN : (((40 : Int32) * ((1 : Int32) - (w.1 129 12))) + (nI j)).toInt.toNat = (40 * bhf w + (j : Int)).toNat := by omega
    refine Eq.mpr (q_Tx_known_16.eq_1 _ _ _ _) ⟨fun z => absurd z (by omega), fun _ => ⟨⟨by omega, by omega⟩, ?_⟩⟩
    rw [eN, g.2.2.2.1, g.2.2.2.2.2.1, ha]
    have rl : mrl x.2.1 = mrl c ↔ x.2.1 = c := by
      unfold mrl
      rcases g.2.2.2.2.2.2 with q | q | q <;> rcases c8 with p | p | p <;> rw [q, p] <;> decide
    have r10 : mrl c = 24 ↔ c = 10 := by
      unfold mrl
      rcases c8 with p | p | p <;> rw [p] <;> decide
    have ek : ¬ (x.2.1 = 10 ∧ x.2.2.2 < 0) → lkn nm (wrd f n s.1).2.2.2.1 = ((j : Int), x.2.1, x.2.2.1, x.2.2.2) := fun z => by
      unfold lkn
      rw [el]
      exact if_neg z
    have ok : x.2.1 = c → ¬ (x.2.1 = 10 ∧ x.2.2.2 < 0) → p_Tx_go w (fun r9 w9 => ((r9.toInt = 0 → (Q (-1) w9)) ∧ (¬ (r9.toInt = 0) → (Q (nI j) w9)))) := fun ec z => by
      have k := ek z
      have yes : (wrd f n s.1).1 = 30 ∧ 0 ≤ (lkn nm (wrd f n s.1).2.2.2.1).1 ∧ (lkn nm (wrd f n s.1).2.2.2.1).2.1 = c := ⟨k30, by rw [k]; show (0 : Int) ≤ (j : Int); omega, by rw [k]; exact ec⟩
      refine y_go h.1 (fun ok w' F' Y' K' pn => ⟨fun z => absurd z i1n, fun _ => ?_⟩) (fun bd w' e' => ⟨fun _ => hb w' (zer (wrd f n (wrd f n s.1).2.2.1).2.1) (ZI_1 (by unfold znm zgo; rw [if_pos yes, if_pos bd])) rfl e', fun z => absurd i_0 z⟩)
      have t := yz_kx h Y' K' ((j : Int), x.2.2.1, x.2.2.2)
      exact hg w' ((wrd f n s.1).2.2.1, s.2.1, s.2.2.1, s.2.2.2.1, (j : Int), x.2.2.1, x.2.2.2) j x hx (ZI_1 (by unfold znm zgo; rw [if_pos yes, if_neg ok, k])) rfl pn t.1 t.2
    refine ⟨fun ne => bad (fun z => ne (rl.mpr ?_)), fun eq => ?_⟩
    · by_cases q : x.2.1 = 10 ∧ x.2.2.2 < 0
      · have z2 := z.2.1
        unfold lkn at z2
        rw [el] at z2
        have z3 : 0 ≤ (if x.2.1 = 10 ∧ x.2.2.2 < 0 then ((-1, 0, 0, 0) : Int × Int × Int × Int) else ((j : Int), x.2.1, x.2.2.1, x.2.2.2)).1 := z2
        rw [if_pos q] at z3
        exact absurd z3 (by decide)
      · have z2 := z.2.2
        rw [ek q] at z2
        exact z2
    · have ec := rl.mp (Classical.not_not.mp eq)
      refine ⟨fun n24 => ok ec (fun z => n24 (r10.mpr (by rw [← ec]; exact z.1))), fun y24 => ⟨⟨by omega, by omega⟩, fun st => ok ec (fun z => ?_), fun st => bad (fun z => ?_)⟩⟩
      · rw [if_pos z.2] at st
        exact absurd st (by decide)
      · have c10 := r10.mp (Classical.not_not.mp y24)
        have q : x.2.1 = 10 ∧ x.2.2.2 < 0 := ⟨ec.trans c10, by
          by_cases k : x.2.2.2 < 0
          · exact k
          · rw [if_neg k] at st
            omega⟩
        have z2 := z.2.1
        unfold lkn at z2
        rw [el] at z2
        have z3 : 0 ≤ (if x.2.1 = 10 ∧ x.2.2.2 < 0 then ((-1, 0, 0, 0) : Int × Int × Int × Int) else ((j : Int), x.2.1, x.2.2.1, x.2.2.2)).1 := z2
        rw [if_pos q] at z3
        exact absurd z3 (by decide)
/-- a node that was just read, on the pile -/
theorem yp_x {w w1 : MW} {f : Int → Int} {n : Int} {nm : List Nm} {op : Nat} {e lo q M : Int} {s : ZS} {ns1 : List Nod} {y : Int32} {Q : MW → Prop} (h : YZ w f n nm op e lo s) (Y1 : YS w1 f n nm op (e + 1) q ns1) (hy : y.toInt + 1 = (ns1.length : Int)) (n1 : 0 < ns1.length) (KN : KNm w w1) (e35 : w1.1 129 35 = w.1 129 35) (kp : ∀ k : Int, 0 ≤ k → k < (w.1 129 35).toInt → w1.1 144 k.toNat = w.1 144 k.toNat) (m1 : (w1.1 129 38).toInt = M) (M0 : 0 ≤ M) (M1 : M ≤ (ns1.length : Int)) (hQ : ∀ w', YZ w' f n nm op e lo (q, ns1, M, s.2.2.2.1 ++ [ns1.length - 1], s.2.2.2.2) → KY lo w w' → Q w') : p_Tx_push w1 y Q := by
  have e1 := h.2.1.1
  have l0 := h.2.1.2.1
  refine y_push Y1 h.1.1.1.2.1 (by omega) (by omega) (fun w' F' Y' K' e' k' v' => hQ w' ⟨Y', ⟨?_, l0, fun k c hk => ?_⟩, by rw [(F' 129 38 rfl).1]; exact m1, M0, M1⟩ ⟨KN.tr K', fun k k0 k1 => ?_⟩)
  · show (w'.1 129 35).toInt = lo + ((s.2.2.2.1 ++ [ns1.length - 1]).length : Int)
    rw [List.length_append, List.length_singleton, e', e35]
    omega
  · rcases app_get hk with t | ⟨t, t2⟩
    · have lk := (List.getElem?_eq_some_iff.mp t).1
      rw [k' (lo + (k : Int)) (by omega) (by rw [e35]; omega), kp (lo + (k : Int)) (by omega) (by omega)]
      exact h.2.1.2.2 k c t
    · rw [t, t2, show lo + (s.2.2.2.1.length : Int) = (w1.1 129 35).toInt by rw [e35]; omega, v']
      omega
  · rw [k' k k0 (by rw [e35]; omega), kp k k0 (by omega)]
/-- a sum -/
theorem yi_sum {w : MW} {f : Int → Int} {n : Int} {nm : List Nm} {op : Nat} {e lo c : Int} {s : ZS} {a : Int32} {Q : Int32 → MW → Prop} (h : YZ w f n nm op e lo s) (ha : a.toInt = (if c < 0 then s.2.2.2.2.2.1 else c)) (hb : ∀ (w' : MW) (r : ZR), ZI f n (lkn nm) op 2 c s r → r.1 = false → (w'.1 129 10).toInt = r.2.1 → Q 0 w') (hg : ∀ (w' : MW) (s' : ZS), ZI f n (lkn nm) op 2 c s (zok s') → s'.2.2.2.2 = s.2.2.2.2 → s.1 ≤ s'.1 → s.2.1.length < s'.2.1.length → YZ w' f n nm op e lo s' → KY lo w w' → Q 1 w') : p_Tx_sumOf w a Q := by
  refine Eq.mpr (p_Tx_sumOf.eq_1 _ _ _) (y_sum h.1 (fun y w1 x hx o => ?_))
  rcases o with ⟨g, Y1, y1, u1, u0, K1, p1, n1⟩ | ⟨g, y1, e1⟩
  · have l3 := ys_len Y1
    refine ⟨fun _ => y_unit Y1.1.1.1 (by omega) (by omega) ⟨fun eq => ?_, fun ne => ?_⟩, fun z => absurd (show 0 ≤ y.toInt by omega) z⟩
    · have eu : x.2.2.1 = (if c < 0 then s.2.2.2.2.2.1 else c) := by rw [← u1, eq, ha]
      refine yp_x h Y1 y1 (by omega) K1.1 K1.2.1 K1.2.2.1 (by rw [K1.2.2.2]; exact h.2.2.1) h.2.2.2.1 (by have := h.2.2.2.2; omega) (fun w' Z' K' => hg w' (x.2.2.2.1, x.2.2.2.2, s.2.2.1, s.2.2.2.1 ++ [x.2.2.2.2.length - 1], s.2.2.2.2) (ZI_2 ⟨x, hx, ?_⟩) rfl p1 n1 Z' K')
      rw [if_pos g, if_pos eu]
    · have nu : ¬ x.2.2.1 = (if c < 0 then s.2.2.2.2.2.1 else c) := fun q => ne (by rw [u1, q, ha])
      refine hb _ (zer (wrd f n x.2.2.2.1).2.1) (ZI_2 ⟨x, hx, ?_⟩) rfl (y_bg Y1 rfl w1)
      rw [if_pos g, if_neg nu]
  · refine ⟨fun z => absurd z (by omega), fun _ => hb w1 (zer x.2.1) (ZI_2 ⟨x, hx, ?_⟩) rfl e1⟩
    rw [if_neg (by rw [g]; decide)]
/-- a test -/
theorem yi_tst {w : MW} {f : Int → Int} {n : Int} {nm : List Nm} {op : Nat} {e lo : Int} {s : ZS} {Q : Int32 → MW → Prop} (h : YZ w f n nm op e lo s) (hb : ∀ (w' : MW) (r : ZR), ZI f n (lkn nm) op 3 0 s r → r.1 = false → (w'.1 129 10).toInt = r.2.1 → Q 0 w') (hg : ∀ (w' : MW) (s' : ZS), ZI f n (lkn nm) op 3 0 s (zok s') → s'.2.2.2.2 = s.2.2.2.2 → s.1 ≤ s'.1 → s.2.1.length < s'.2.1.length → YZ w' f n nm op e lo s' → KY lo w w' → Q 1 w') : p_Tx_test w (fun r25 w25 => (p_Tx_pushed w25 r25 (fun r26 w26 => Q r26 w26))) := by
  refine y_test h.1 (fun y w1 x hx o => Eq.mpr (p_Tx_pushed.eq_1 _ _ _) ?_)
  rcases o with ⟨g, Y1, y1, K1, p1, n1⟩ | ⟨g, y1, e1⟩
  · have l3 := ys_len Y1
    refine ⟨fun _ => yp_x h Y1 y1 (by omega) K1.1 K1.2.1 K1.2.2.1 (by rw [K1.2.2.2]; exact h.2.2.1) h.2.2.2.1 (by have := h.2.2.2.2; omega) (fun w' Z' K' => hg w' (x.2.2.2.1, x.2.2.2.2, s.2.2.1, s.2.2.2.1 ++ [x.2.2.2.2.length - 1], s.2.2.2.2) (ZI_3 ⟨x, hx, ?_⟩) rfl p1 n1 Z' K'), fun z => absurd (show 0 ≤ y.toInt by omega) z⟩
    rw [if_pos g]
  · refine ⟨fun z => absurd z (by omega), fun _ => hb w1 (zer x.2.1) (ZI_3 ⟨x, hx, ?_⟩) rfl e1⟩
    rw [if_neg (by rw [g]; decide)]
/-- what a block or a statement leaves: r is what the piece says -/
def YR (w w' : MW) (f : Int → Int) (n : Int) (nm : List Nm) (op : Nat) (e : Int) (s : ZS) (r : ZR) (y : Int32) : Prop := (∃ s' : ZS, r = zok s' ∧ YS w' f n nm op (e + 1) s'.1 s'.2.1 ∧ y.toInt + 1 = (s'.2.1.length : Int) ∧ KNm w w' ∧ w'.1 129 35 = w.1 129 35 ∧ (∀ k : Int, 0 ≤ k → k < (w.1 129 35).toInt → w'.1 144 k.toNat = w.1 144 k.toNat) ∧ (w'.1 129 38).toInt = s'.2.2.1 ∧ 0 ≤ s'.2.2.1 ∧ s'.2.2.1 ≤ (s'.2.1.length : Int) ∧ s.1 ≤ s'.1 ∧ s.2.1.length < s'.2.1.length ∧ s'.2.2.2 = (s.2.2.2.1 ++ [s'.2.1.length - 1], s.2.2.2.2) ∧ (w'.1 131 (nb w' y.toInt)).toInt ≤ 23) ∨ (r.1 = false ∧ y.toInt < 0 ∧ (w'.1 129 10).toInt = r.2.1)
/-- F reads the piece c (4 a block, 9 a statement) -/
def HZm (F : MW → (Int32 → MW → Prop) → Prop) (c : Int) (op : Nat) (f : Int → Int) (n : Int) (nm : List Nm) : Prop := ∀ (e : Int) (s : ZS) (w : MW) (Q : Int32 → MW → Prop), YS w f n nm op e s.1 s.2.1 → (w.1 129 38).toInt = s.2.2.1 → 0 ≤ s.2.2.1 → s.2.2.1 ≤ (s.2.1.length : Int) → (∀ (y : Int32) (w' : MW) (r : ZR), ZI f n (lkn nm) op c 0 s r → YR w w' f n nm op e s r y → Q y w') → F w Q
theorem yi_blk {F : MW → (Int32 → MW → Prop) → Prop} {c : Int} {w : MW} {f : Int → Int} {n : Int} {nm : List Nm} {op : Nat} {e lo : Int} {s : ZS} {Q : Int32 → MW → Prop} (hF : HZm F c op f n nm) (h : YZ w f n nm op e lo s) (hb : ∀ (w' : MW) (r : ZR), ZI f n (lkn nm) op c 0 s r → r.1 = false → (w'.1 129 10).toInt = r.2.1 → Q 0 w') (hg : ∀ (w' : MW) (s' : ZS), ZI f n (lkn nm) op c 0 s (zok s') → s'.2.2.2.2 = s.2.2.2.2 → s.1 ≤ s'.1 → s.2.1.length < s'.2.1.length → YZ w' f n nm op e lo s' → KY lo w w' → Q 1 w') : F w (fun r25 w25 => (p_Tx_pushed w25 r25 (fun r26 w26 => Q r26 w26))) := by
  refine hF e s w _ h.1 h.2.2.1 h.2.2.2.1 h.2.2.2.2 (fun y w1 r hr o => Eq.mpr (p_Tx_pushed.eq_1 _ _ _) ?_)
  rcases o with ⟨s', er, Y1, y1, KN, e35, kp, m1, M0, M1, p1, n1, et, k23⟩ | ⟨g, y1, e1⟩
  · refine ⟨fun _ => yp_x h Y1 y1 (by omega) KN e35 kp m1 M0 M1 (fun w' Z' K' => ?_), fun z => absurd (show 0 ≤ y.toInt by omega) z⟩
    rw [er] at hr
    have es : s' = (s'.1, s'.2.1, s'.2.2.1, s.2.2.2.1 ++ [s'.2.1.length - 1], s.2.2.2.2) := by
      show (s'.1, s'.2.1, s'.2.2.1, s'.2.2.2) = _
      rw [et]
    rw [← es] at Z'
    exact hg w' s' hr (by rw [et]) p1 n1 Z' K'
  · exact ⟨fun z => absurd z (by omega), fun _ => hb w1 r hr g e1⟩
