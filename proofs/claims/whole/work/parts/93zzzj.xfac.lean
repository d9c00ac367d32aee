/-! the class reads factors -/
theorem vlu_b : ∀ (l : List Int) (a : Int), 0 ≤ a → (∀ c ∈ l, 48 ≤ c ∧ c ≤ 57) → 0 ≤ vlu a l ∧ vlu a l < (a + 1) * 10 ^ l.length := by
  intro l
  induction l with
  | nil =>
    intro a a0 _
    refine ⟨a0, ?_⟩
    show a < (a + 1) * 10 ^ 0
    rw [Int.pow_zero]
    omega
  | cons c l ih =>
    intro a a0 h
    have b := h c List.mem_cons_self
    have t := ih (a * 10 + c - 48) (by omega) (fun d hd => h d (List.mem_cons_of_mem _ hd))
    refine ⟨t.1, ?_⟩
    have pp : (0 : Int) ≤ 10 ^ l.length := Int.pow_nonneg (by decide)
    have m := Int.mul_le_mul_of_nonneg_right (show a * 10 + c - 48 + 1 ≤ (a + 1) * 10 by omega) pp
    have e : (a + 1) * 10 ^ (c :: l).length = (a + 1) * 10 * 10 ^ l.length := by
      rw [List.length_cons, Int.pow_succ, Int.mul_assoc, Int.mul_comm (10 ^ l.length) 10]
    rw [e]
    exact Int.lt_of_lt_of_le t.2 m
theorem fra_b {a : Int} {l : List Int} (h : l.length ≤ 3) (hd : ∀ c ∈ l, 48 ≤ c ∧ c ≤ 57) : a ≤ fra 100 a l ∧ fra 100 a l ≤ a + 999 := by
  match l, h, hd with
  | [], _, _ =>
    show a ≤ a ∧ a ≤ a + 999
    omega
  | [c], _, hd =>
    have c1 := hd c List.mem_cons_self
    show a ≤ a + 100 * (c - 48) ∧ a + 100 * (c - 48) ≤ a + 999
    omega
  | [c, d], _, hd =>
    have c1 := hd c List.mem_cons_self
    have d1 := hd d (List.mem_cons_of_mem _ List.mem_cons_self)
    show a ≤ a + 100 * (c - 48) + (100 / 10) * (d - 48) ∧ a + 100 * (c - 48) + (100 / 10) * (d - 48) ≤ a + 999
    omega
  | [c, d, e], _, hd =>
    have c1 := hd c List.mem_cons_self
    have d1 := hd d (List.mem_cons_of_mem _ List.mem_cons_self)
    have e1 := hd e (List.mem_cons_of_mem _ (List.mem_cons_of_mem _ List.mem_cons_self))
    show a ≤ a + 100 * (c - 48) + (100 / 10) * (d - 48) + (100 / 10 / 10) * (e - 48) ∧ a + 100 * (c - 48) + (100 / 10) * (d - 48) + (100 / 10 / 10) * (e - 48) ≤ a + 999
    omega
  | _ :: _ :: _ :: _ :: _, h, _ => exact absurd h (by simp only [List.length_cons]; omega)
theorem dgz_b (f : Int → Int) (q : Int) : 0 ≤ dgz f q ∧ dgz f q ≤ 999999999999 := by
  have a := dgl_m f 9 q
  have v := vlu_b (dgl f 9 q) 0 (Int.le_refl _) a.2
  have p := p10q (dgl f 9 q).length (by omega)
  have v2 : vlu 0 (dgl f 9 q) < 1000000000 := by
    have e : ((0 : Int) + 1) * 10 ^ (dgl f 9 q).length = 10 ^ (dgl f 9 q).length := by rw [Int.zero_add, Int.one_mul]
    rw [e] at v
    omega
  have fl : (dgf f q).length ≤ 3 ∧ ∀ c ∈ dgf f q, 48 ≤ c ∧ c ≤ 57 := by
    unfold dgf
    by_cases c : dgp f q = true
    · rw [if_pos c]
      exact dgl_m f 3 _
    · rw [if_neg c]
      exact ⟨Nat.zero_le _, fun c h => (by cases h)⟩
  have t := fra_b (a := vlu 0 (dgl f 9 q) * 1000) fl.1 fl.2
  have e : dgz f q = fra 100 (vlu 0 (dgl f 9 q) * 1000) (dgf f q) := rfl
  have v0 := v.1
  omega
theorem wrd_v {f : Int → Int} {n p : Int} : 0 ≤ (wrd f n p).2.2.2.2.1 ∧ (wrd f n p).2.2.2.2.1 ≤ 999999999999 := by
  have e : wrd f n p = wrq f n (skp f n 4001 p) := rfl
  rw [e]
  generalize skp f n 4001 p = q
  have z : (0 : Int) ≤ 0 ∧ (0 : Int) ≤ 999999999999 := by decide
  unfold wrq
  by_cases c : n ≤ q
  · rw [if_pos c]
    exact z
  · rw [if_neg c]
    by_cases d : lt1 (f q) = true
    · rw [if_pos d]
      unfold wrL
      by_cases b : bd1 (f (q + ((lts f 12 q).length : Int))) = true
      · rw [if_pos b]
        exact z
      · rw [if_neg b]
        exact z
    · rw [if_neg d]
      by_cases e : dg1 (f q) = true
      · rw [if_pos e]
        unfold wrN
        by_cases b : bd1 (f (dgn f q)) = true
        · rw [if_pos b]
          exact dgz_b f q
        · rw [if_neg b]
          exact dgz_b f q
      · rw [if_neg e]
        by_cases g : mk1 (f q) = true
        · rw [if_pos g]
          exact z
        · rw [if_neg g]
          exact z
theorem lev_c {f : Int → Int} {n : Int} {nm : List Nm} {d : Nat} (hF : CFa f n nm d) (hL : CLv f n nm d) : CLv f n nm (d + 1) := by
  intro m op p ns w Q hm ho hd h hQ
  have tm : (nI m).toInt = (m : Int) := nI_toInt (by omega)
  rw [pe_Rd_readLevel]
  refine Eq.mpr (pb_Rd_readLevel.eq_1 _ _ _ _ _) ?_
  rw [nI_1]
  have mk : ∀ (k : Nat) (r : XR), xlv (XP f n (lkn nm) k) m op p ns r → ∃ k, XP f n (lkn nm) k m op 0 p ns r := fun k r hr => ⟨k + 1, by
    rw [XP_u, if_neg (by omega), if_pos hm]
    exact hr⟩
  have main : ∀ (y : Int32) (w' : MW) (r : XR), (∃ k, XP f n (lkn nm) k (m + 1) op 0 p ns r) → XO w w' f n nm op ns.length p r y → ∀ x4 : Int32, ((m = 0 ∧ x4.toInt = 1) ∨ (¬ m = 0 ∧ x4.toInt = 4000)) → q_Rd_readLevel_33 (pn_Rd_readFactor d) (pn_Rd_readLevel d) (nI m) (nI (m + 1)) y x4 w' Q := fun y w' r hk hx x4 hx4 => by
    obtain ⟨k, hk⟩ := hk
    obtain ⟨kn, fr, st⟩ := hx
    rcases st with ⟨r1, X', ey, y0, pp, nn⟩ | ⟨r1, X'⟩
    · refine Eq.mpr (q_Rd_readLevel_33.eq_1 _ _ _ _ _ _ _ _) (lo_38 (N := ns.length) hm ho hF hL (by omega) hx4 FU 0 r.2.2.2.1 r.2.2.2.2 y w' Q X' (by omega) (by have := X'.2.2.2.2.2.2.1; omega) (fun _ => rfl) nn (fun y2 w2 r2 hk2 hx2 => ?_) (fu_lt (by decide)))
      obtain ⟨k2, hk2⟩ := hk2
      obtain ⟨kn2, fr2, st2⟩ := hx2
      rw [ey] at hk2
      refine hQ y2 w2 r2 (mk (max k k2) r2 ⟨r, XP_le (Nat.le_max_left k k2) _ _ _ _ _ _ hk, by rw [if_pos r1]; exact XP_le (Nat.le_max_right k k2) _ _ _ _ _ _ hk2⟩) ⟨kn.tr kn2, fr.tr fr2 rfl, ?_⟩
      rcases st2 with ⟨a1, a2, a3, a4, a5, a6⟩ | a
      · exact Or.inl ⟨a1, a2, a3, a4, by omega, a6⟩
      · exact Or.inr a
    · exact w_33 X' (fun y2 => hQ y2 w' r (mk k r ⟨r, hk, by rw [if_neg (nt r1)]⟩) ⟨kn, fr, Or.inr ⟨r1, X'⟩⟩)
  exact opd (Q := fun r2 w2 => ((¬ (nI m).toInt = 0 → (q_Rd_readLevel_33 (pn_Rd_readFactor d) (pn_Rd_readLevel d) (nI m) (nI (m + 1)) r2 4000 w2 Q)) ∧ (¬ (¬ (nI m).toInt = 0) → (q_Rd_readLevel_33 (pn_Rd_readFactor d) (pn_Rd_readLevel d) (nI m) (nI (m + 1)) r2 1 w2 Q)))) hm ho hF hL (by omega) h (fun y w' r hk hx => ⟨fun z => main y w' r hk hx 4000 (Or.inr ⟨by omega, by decide⟩), fun z => main y w' r hk hx 1 (Or.inl ⟨by omega, by decide⟩)⟩)
/-- a number's node -/
theorem mk_n {w : MW} {f : Int → Int} {n : Int} {nm : List Nm} {op : Nat} {p V : Int} {ns : List Nod} {v : Int64} {Q : Int32 → MW → Prop} (h : XS w f n nm op p ns) (hv : v.toInt = V) (h1 : ¬ ns.length = 300 → ∀ w', FR lexp w w' → KNd ns.length w w' → XS w' f n nm op p (ns ++ [(31, 0, V, [])]) → Q (nI ns.length) w') (h0 : ns.length = 300 → ∀ w', FR lexp w w' → KNd ns.length w w' → XW w' f n nm op (wrd f n p).2.1 ns.length → Q (nI ns.length) w') : p_Rd_makeNode w 31 0 (fun r27 w27 => ((0 ≤ r27.toInt ∧ r27.toInt < 301) ∧ (Q r27 (sJ w27 115 r27.toInt.toNat v)))) := by
  have hw := h.2.2.2.1
  have n3 := h.2.2.2.2.2.1
  have tl : (nI ns.length).toInt = (ns.length : Int) := nI_toInt (by omega)
  have tn : (nI ns.length).toInt.toNat = ns.length := by omega
  refine mk_x h.1.1 h.1.2.2.1 h.2.2.2.2.1.1 n3 (fun w' B' F' K' v9 v10 v11 v12 v13 v14 v88 v89 v1 vv => ⟨by omega, ?_⟩)
  rw [tn]
  have F2 : FR [(115, none)] w' (sJ w' 115 ns.length v) := FR.J (FR.refl _ w') rfl
  have G2 : FR lexp w (sJ w' 115 ns.length v) := FR.J (FR.tr (FR.refl _ w) F' rfl) rfl
  have K2 : KNd ns.length w (sJ w' 115 ns.length v) := fun k j hk hj => ⟨(K' k j hk hj).1, by
    rw [sJ_at, if_neg (fun z => by omega)]
    exact (K' k j hk hj).2⟩
  have X' : XB (sJ w' 115 ns.length v) f n nm op := xb_fr (xb_fr h.1 F' B' (by rw [(F' 87 2 rfl).1]; exact h.1.2.2.2.2.2.2.2.2) rfl) F2 B' (by rw [(F2 87 2 rfl).1, (F' 87 2 rfl).1]; exact h.1.2.2.2.2.2.2.2.2) rfl
  by_cases c : ns.length = 300
  · rw [if_pos ⟨c, by omega⟩] at vv
    have wn := wrd_n (f := f) (n := n) (p := p) (xb_f h.1) h.2.2.2.2.2.2.1 h.2.2.2.2.2.2.2
    refine h0 c _ G2 K2 ⟨X', ?_, wn.2.2.1, ?_, n3⟩
    · show (w'.1 87 9).toInt = _
      rw [vv]
      exact h.2.1.2.1
    · show _ ≤ (w'.1 108 1).toInt
      omega
  · rw [if_neg (fun z => c z.1)] at vv
    refine h1 c _ G2 K2 ⟨X', tkc_fr (tkc_fr h.2.1 F' rfl) F2 rfl, h.2.2.1, ?_, pnc_s h.2.2.2.2.1 K2 v1 ?_ ?_ (fun _ => ?_), by rw [List.length_append, List.length_singleton]; omega, h.2.2.2.2.2.2.1, h.2.2.2.2.2.2.2⟩
    · show (w'.1 87 9).toInt = _
      rw [vv]
      exact hw
    · show (w'.1 109 ns.length).toInt = _
      rw [v9]
      show (31 : Int32).toInt = 31
      decide
    · show (w'.1 110 ns.length).toInt = _
      rw [v10]
      exact i_0
    · rw [sJ_same]
      exact hv
theorem mk_nw {w : MW} {f : Int → Int} {n : Int} {nm : List Nm} {op N : Nat} {e : Int} {v : Int64} {Q : Int32 → MW → Prop} (h : XW w f n nm op e N) (hQ : ∀ (r : Int32) (w' : MW), FR lexp w w' → KNd N w w' → XW w' f n nm op e N → Q r w') : p_Rd_makeNode w 31 0 (fun r27 w27 => ((0 ≤ r27.toInt ∧ r27.toInt < 301) ∧ (Q r27 (sJ w27 115 r27.toInt.toNat v)))) := by
  refine mk_w h (fun r w' F' K' r0 r3 rN X' => ⟨⟨r0, r3⟩, ?_⟩)
  have F2 : FR [(115, none)] w' (sJ w' 115 r.toInt.toNat v) := FR.J (FR.refl _ w') rfl
  refine hQ r _ (FR.J (FR.tr (FR.refl _ w) F' rfl) rfl) (fun k j hk hj => ⟨(K' k j hk hj).1, ?_⟩) ⟨xb_fr X'.1 F2 X'.1.1 (by rw [(F2 87 2 rfl).1]; exact X'.1.2.2.2.2.2.2.2.2) rfl, X'.2.1, X'.2.2.1, X'.2.2.2.1, X'.2.2.2.2⟩
  rw [sJ_at, if_neg (fun z => by omega)]
  exact (K' k j hk hj).2
