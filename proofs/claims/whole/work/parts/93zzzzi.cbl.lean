/-! the class reads acts and blocks -/
theorem ck_act {oq : OQ} {w : MW} {f : Int → Int} {n : Int} {nm : List Nm} {op jj : Nat} {s1 : ZS} {a : Int32} {Q : Int32 → MW → Prop} (hZ : ZG w f n oq nm op jj s1) (ha : a.toInt = 26) (h0 : s1.2.2.2.1 = []) (bad : CBd f n nm op [(5, 0), (0, 59)] s1 Q) (good : CGd f n oq nm op jj 26 [(5, 0), (0, 59)] s1 Q) : ((¬ (w.1 87 3).toInt = 31 → (p_Rd_fail w  (fun w18 => (p_Rd_take w18 31 (fun w19 => (q_Rd_readShort_87 a (Int64.toInt32 ((w18.2.1 87 6) / (1000 : Int64))) w19 Q)))))) ∧ (¬ (¬ (w.1 87 3).toInt = 31) → ((¬ (w.1 87 7).toInt = 0 → (p_Rd_fail w  (fun w21 => (p_Rd_take w21 31 (fun w22 => (q_Rd_readShort_87 a (Int64.toInt32 ((w21.2.1 87 6) / (1000 : Int64))) w22 Q)))))) ∧ (¬ (¬ (w.1 87 7).toInt = 0) → (((lg_cmp (w.2.1 87 6) (31000 : Int64)).toInt ≤ 0 → (p_Rd_take w 31 (fun w24 => (q_Rd_readShort_87 a (Int64.toInt32 ((w.2.1 87 6) / (1000 : Int64))) w24 Q)))) ∧ (¬ ((lg_cmp (w.2.1 87 6) (31000 : Int64)).toInt ≤ 0) → (p_Rd_fail w  (fun w25 => (p_Rd_take w25 31 (fun w26 => (q_Rd_readShort_87 a (Int64.toInt32 ((w25.2.1 87 6) / (1000 : Int64))) w26 Q))))))))))) := by
  have X := hZ.1
  have hw := X.2.2.2.1
  have c3 : (w.1 87 3).toInt = (wrd f n s1.1).1 := X.2.1.1
  have no : ¬ ((wrd f n s1.1).1 = 31 ∧ (wrd f n s1.1).2.2.2.2.2 = false ∧ (wrd f n s1.1).2.2.2.2.1 < 32000) → p_Rd_fail w (fun w18 => (p_Rd_take w18 31 (fun w19 => (q_Rd_readShort_87 a (Int64.toInt32 ((w18.2.1 87 6) / (1000 : Int64))) w19 Q)))) := fun q => fl_g X (fun w' F' X' => cw_tk (zw_of X') (cw_87 (zw_of X') (fun z => by omega) (fun y w2 W2 y0 y1 => bad y w2 (zer (wrd f n s1.1).2.1) (ZE_b (ZI_5 (by unfold zac; rw [if_neg q])) rfl) rfl W2 y0 y1)))
  rw [c3]
  refine ⟨fun z => no (fun q => z q.1), fun z => ?_⟩
  have k31 := Classical.not_not.mp z
  have T := X.2.1.2.2.2.2 k31
  have vb := wrd_v (f := f) (n := n) (p := s1.1)
  rw [T.2]
  refine ⟨fun z2 => no (fun q => z2 (by rw [if_neg (by rw [q.2.1]; decide)])), fun z2 => ?_⟩
  have np : (wrd f n s1.1).2.2.2.2.2 = false := by
    have z3 := Classical.not_not.mp z2
    by_cases q : (wrd f n s1.1).2.2.2.2.2 = true
    · rw [if_pos q] at z3
      exact absurd z3 (by decide)
    · exact Bool.eq_false_iff.mpr q
  obtain ⟨v, ev⟩ := wrd_t k31 np
  have cm := nb_cmp (w.2.1 87 6) (31000 : Int64)
  rw [(by decide : ((31000 : Int64)).toInt = 31000), T.1] at cm
  refine ⟨fun c => ?_, fun c => no (fun q => by have := q.2.2; omega)⟩
  have yes : (wrd f n s1.1).1 = 31 ∧ (wrd f n s1.1).2.2.2.2.2 = false ∧ (wrd f n s1.1).2.2.2.2.1 < 32000 := ⟨k31, np, by omega⟩
  have ed := nb_ldiv (show 0 ≤ (w.2.1 87 6).toInt by rw [T.1]; exact vb.1) (by decide : ((1000 : Int64)).toInt = 1000) (by omega)
  have en := nb_l2i (x := (w.2.1 87 6) / (1000 : Int64)) (by rw [ed, T.1]; omega) (by rw [ed, T.1]; omega)
  refine Eq.mpr (p_Rd_take.eq_1 _ _ _) ⟨fun z => absurd z (by omega), fun _ => ⟨fun _ => ?_, fun ne => absurd (show (w.1 87 3).toInt = (31 : Int32).toInt by rw [c3, k31]; decide) ne⟩⟩
  refine nx_g X.1 hw X.2.1.2.2.1 X.2.2.2.2.1 X.2.2.2.2.2.1 (fun ok w' F' X' => ?_) (fun bd w' F' X' => cw_87 (zw_of X') (fun z => by omega) (fun y w2 W2 y0 y1 => bad y w2 (zer (wrd f n (wrd f n s1.1).2.2.1).2.1) (ZE_b (ZI_5 (by unfold zac zgo; rw [if_pos yes, if_pos bd])) rfl) rfl W2 y0 y1))
  have hz : ZI f n (lkn nm) op 5 0 s1 (zok ((wrd f n s1.1).2.2.1, s1.2.1, s1.2.2.1, s1.2.2.2.1, (wrd f n s1.1).2.2.2.2.1 / 1000, s1.2.2.2.2.2)) := ZI_5 (by unfold zac zgo; rw [if_pos yes, if_neg ok])
  have Z := zg_x hZ X' (fr_89 F' rfl _) (s0_fr F' rfl) ((wrd f n s1.1).2.2.2.2.1 / 1000, s1.2.2.2.2.2)
  refine ck_87 (k := 26) Z (by decide) (by decide) (by decide) ha ?_ h0 (fun r hr => ZE_g hz rfl hr) bad good
  show _ = (wrd f n s1.1).2.2.2.2.1 / 1000
  rw [en, ed, T.1]
/-- readShort -/
theorem ck_short {oq : OQ} {w : MW} {f : Int → Int} {n k : Int} {nm : List Nm} {op jj : Nat} {s1 : ZS} {a : Int32} {Q : Int32 → MW → Prop} (hZ : ZG w f n oq nm op jj s1) (hk : 22 ≤ k ∧ k ≤ 26) (ha : a.toInt = k) (h0 : s1.2.2.2.1 = []) (hA : s1.2.2.2.2 = (0, 0, 0)) (bad : CBd f n nm op (its k) s1 Q) (good : CGd f n oq nm op jj k (its k) s1 Q) : p_Rd_readShort w a Q := by
  have kS : isS k = true := isS_t.mpr (by omega)
  refine Eq.mpr (p_Rd_readShort.eq_1 _ _ _) ⟨fun n22 => ⟨fun n23 => ⟨fun n26 => ?_, fun y26 => ?_⟩, fun y23 => ?_⟩, fun y22 => ?_⟩
  · have el : its k = [(0, 59)] := by
      unfold its
      rw [if_neg (by omega), if_neg (by omega), if_neg (by omega), if_neg (by omega), if_neg (by omega), if_neg (by omega), if_neg (by omega), if_neg (by omega), if_neg (by omega), if_neg (by omega), if_neg (by omega)]
    rw [el] at bad good
    exact ck_87 (k := k) hZ kS (by omega) (by unfold nxp; rw [if_neg (by omega), if_neg (by omega)]) ha (by rw [hA]; decide) h0 (fun r hr => hr) bad good
  · have e : k = 26 := by
      have := Classical.not_not.mp y26
      omega
    rw [e] at bad good
    exact ck_act hZ (Classical.not_not.mp y26) h0 bad good
  · have e : k = 23 := by
      have := Classical.not_not.mp y23
      omega
    rw [e] at bad good
    exact ck_do hZ (Classical.not_not.mp y23) h0 bad good
  · have e : k = 22 := by
      have := Classical.not_not.mp y22
      omega
    rw [e] at bad good
    refine ct_nm (c := 8) hZ (by decide) (fun w1 r hz hf W => cw_87 W (fun z => by omega) (fun y w2 W2 y0 y1 => bad y w2 r (ZE_b hz hf) hf W2 y0 y1)) (fun w1 r i x hx xc el hz hf il W => cw_87 W (fun z => by omega) (fun y w2 W2 y0 y1 => bad y w2 r (ZE_b hz hf) hf W2 y0 y1)) (fun w1 s2 i x hx hz es xc el Z1 => ?_)
    have n4 := Z1.1.1.2.2.2.2.2.2.1.2.1
    have il := (List.getElem?_eq_some_iff.mp hx).1
    refine ck_87 (k := 22) Z1 (by decide) (by decide) (by decide) (Classical.not_not.mp y22) ?_ ?_ (fun r hr => ZE_g hz rfl hr) bad good
    · rw [es]
      exact nI_toInt (by omega)
    · rw [es]
      exact h0
theorem zw_op {w : MW} {f : Int → Int} {n : Int} {nm : List Nm} {op op' : Nat} {e : Int} {v : Int32} (h : ZW w f n nm op e) (hv : v.toInt = (op' : Int)) (o2 : op' ≤ 20) : ZW (sI w 87 8 v) f n nm op' e := xw_op h hv o2
theorem smC_1 (acc : List (Int × Int)) (l : List Nat) (a : Int) (k : Nat) : smC acc a (l ++ [k]) = smC acc a l + gC acc k := by
  rw [smC_a]
  rfl
theorem mxD_a (acc : List (Int × Int)) : ∀ (l m : List Nat) (a : Int), mxD acc a (l ++ m) = mxD acc (mxD acc a l) m := by
  intro l
  induction l with
  | nil => exact fun _ _ => rfl
  | cons k l ih => exact fun m a => ih m _
/-- sums and depths of kids, over new nodes -/
theorem kid_pre {ns ms : List Nod} {l : List Nat} (hp : PRE ns ms) (hl : ∀ c ∈ l, c < ns.length) (a : Int) : smC (csl ms []) a l = smC (csl ns []) a l ∧ mxD (csl ms []) a l = mxD (csl ns []) a l := ⟨smC_g l a (fun c hc => (gc_pre hp (hl c hc)).1), mxD_g l a (fun c hc => (gc_pre hp (hl c hc)).2)⟩
theorem mxD_r {lk : List Int → Int × Int × Int × Int} {ns : List Nod} {l : List Nat} (h : NWf lk ns) (hl : ∀ c ∈ l, c < ns.length) : 0 ≤ mxD (csl ns []) 0 l ∧ mxD (csl ns []) 0 l ≤ (ns.length : Int) := mxD_b l 0 (Int.le_refl _) (by omega) (fun c hc => by
  have a := hl c hc
  have := (gD_b h c a).2
  omega)
theorem min_x {w : MW} {a : Int32} {A B : Int} {Q : Int32 → MW → Prop} (ha : a.toInt = A) (hB : cap A = B) (hQ : ∀ r : Int32, r.toInt = B → Q r w) : p_Ma_min w a 501 Q := by
  refine Eq.mpr (p_Ma_min.eq_1 _ _ _ _) ⟨fun gt => hQ _ ?_, fun le => hQ _ ?_⟩
  · rw [show (501 : Int32).toInt = 501 by decide, ha] at gt
    rw [← hB]
    unfold cap
    rw [if_neg (by omega)]
    decide
  · rw [show (501 : Int32).toInt = 501 by decide, ha] at le
    rw [← hB, ha]
    unfold cap
    by_cases q : A ≤ 500
    · rw [if_pos q]
    · rw [if_neg q]
      omega
theorem max_x {w : MW} {a b : Int32} {A B : Int} {Q : Int32 → MW → Prop} (ha : a.toInt = A) (hb : b.toInt = B) (hQ : ∀ r : Int32, r.toInt = (if B ≤ A then A else B) → Q r w) : p_Ma_max w a b Q := by
  refine Eq.mpr (p_Ma_max.eq_1 _ _ _ _) ⟨fun lt => hQ _ ?_, fun ge => hQ _ ?_⟩
  · rw [if_neg (by omega)]
    exact hb
  · rw [if_pos (by omega)]
    exact ha
theorem min_w {w : MW} {a b : Int32} {Q : Int32 → MW → Prop} (hQ : ∀ r : Int32, Q r w) : p_Ma_min w a b Q := Eq.mpr (p_Ma_min.eq_1 _ _ _ _) ⟨fun _ => hQ _, fun _ => hQ _⟩
theorem max_w {w : MW} {a b : Int32} {Q : Int32 → MW → Prop} (hQ : ∀ r : Int32, Q r w) : p_Ma_max w a b Q := Eq.mpr (p_Ma_max.eq_1 _ _ _ _) ⟨fun _ => hQ _, fun _ => hQ _⟩
/-- the kids that are linked so far: x the first, y the last -/
def KCh (w : MW) (B : Nat) (s : ZS) (x y : Int) : Prop := (s.2.2.2.1 = [] ∧ x = -1 ∧ y = -1) ∨ ∃ (l : List Nat) (k : Nat), s.2.2.2.1 = l ++ [k] ∧ (∀ c ∈ l, c < k) ∧ k + 1 = s.2.1.length ∧ B ≤ k ∧ y = (k : Int) ∧ CHc w s.2.2.2.1 x
theorem kch_c {w : MW} {B : Nat} {s : ZS} {x y : Int} (h : KCh w B s x y) : CHc w s.2.2.2.1 x := by
  rcases h with ⟨a, b, _⟩ | ⟨_, _, _, _, _, _, _, h⟩
  · rw [a]
    exact b
  · exact h
/-- the first kid -/
theorem kch_1 {w w' : MW} {B : Nat} {s s' : ZS} {x y r : Int} (h : KCh w B s x y) (y0 : y < 0) (kk : s'.2.2.2.1 = s.2.2.2.1 ++ [s'.2.1.length - 1]) (er : r + 1 = (s'.2.1.length : Int)) (hB : B < s'.2.1.length) (e : (w'.1 114 (s'.2.1.length - 1)).toInt = -1) : KCh w' B s' r r := by
  rcases h with ⟨a, b, c⟩ | ⟨_, k, _, _, _, _, e5, _⟩
  · have e1 : s'.2.2.2.1 = [] ++ [s'.2.1.length - 1] := by
      rw [kk, a]
    refine Or.inr ⟨[], s'.2.1.length - 1, e1, fun c hc => (by cases hc), by omega, by omega, by omega, ?_⟩
    rw [e1]
    exact ⟨by omega, e⟩
  · omega
/-- one kid more -/
theorem kch_2 {w w' : MW} {B : Nat} {s s' : ZS} {x y r : Int} (h : KCh w B s x y) (y0 : 0 ≤ y) (nn : s.2.1.length < s'.2.1.length) (kk : s'.2.2.2.1 = s.2.2.2.1 ++ [s'.2.1.length - 1]) (er : r + 1 = (s'.2.1.length : Int)) (e1 : ∀ c : Nat, c < s.2.1.length → ¬ (c : Int) = y → w'.1 114 c = w.1 114 c) (e2 : (w'.1 114 y.toNat).toInt = r) (e3 : (w'.1 114 (s'.2.1.length - 1)).toInt = -1) : KCh w' B s' x r := by
  rcases h with ⟨a, b, c⟩ | ⟨l, k, el, hl, kl, kb, ey, hc⟩
  · omega
  · have yk : y.toNat = k := by omega
    rw [yk] at e2
    have e4 : s'.2.2.2.1 = (l ++ [k]) ++ [s'.2.1.length - 1] := by rw [kk, el]
    refine Or.inr ⟨l ++ [k], s'.2.1.length - 1, e4, fun c hc => ?_, by omega, by omega, by omega, ?_⟩
    · rcases List.mem_append.mp hc with q | q
      · have := hl c q
        omega
      · rw [List.mem_singleton.mp q]
        omega
    · rw [e4]
      rw [el] at hc
      exact chc_s l x hc (fun c hc => by
        have := hl c hc
        exact e1 c (by omega) (by omega)) (by rw [e2]; omega) e3
/-- the last kid is no kid of a node -/
theorem kch_n {w : MW} {B : Nat} {f : Int → Int} {n : Int} {lk : List Int → Int × Int × Int × Int} {op : Nat} {c a : Int} {s s' : ZS} {x y : Int} (h : KCh w B s x y) (y0 : 0 ≤ y) (hN : NWf lk s.2.1) (hL : LkB lk s.2.1) (hK : KLt s) (hz : ZI f n lk op c a s (zok s')) (h49 : c = 4 ∨ c = 9) : ∀ (i : Nat) (d : Nod), s'.2.1[i]? = some d → ¬ own d.1 = 0 → ¬ y.toNat ∈ d.2.2.2 := fun i d hd ho hm => by
  rcases h with ⟨a, b, c⟩ | ⟨l, k, el, hl, kl, kb, ey, hc⟩
  · omega
  · have wf := ZI_wf hz hN hL hK
    have lo := zi_lo hz hN hL h49
    have k1 := (wf.1 i d hd).1 _ hm
    by_cases q : s.2.1.length ≤ i
    · have := lo i d q hd ho _ hm
      omega
    · omega
/-- a link is given -/
theorem zg_n {oq : OQ} {w : MW} {f : Int → Int} {n : Int} {nm : List Nm} {op j y : Nat} {s : ZS} {v : Int32} (h : ZG w f n oq nm op j s) (v0 : 0 ≤ v.toInt) (v1 : v.toInt ≤ 300) (hy : oq.2.1 ≤ y) (hn : ∀ (i : Nat) (d : Nod), s.2.1[i]? = some d → ¬ own d.1 = 0 → ¬ y ∈ d.2.2.2) : ZG (sI w 114 y v) f n oq nm op j s := by
  have F : FR [(114, none)] w (sI w 114 y v) := FR.I (FR.refl _ w) rfl
  refine ⟨xs_st h.1 F (wbd_114 h.1.1.1 _ (by omega) (by omega)) rfl, ⟨by rw [(F 108 0 rfl).1]; exact h.2.1.1, fq_k h.2.1.2 (F 108 2 rfl).1 (fun i hi => sI_ne _ _ _ _ _ (by omega)) (Nat.le_refl _)⟩, h.2.2.1, h.2.2.2.1, szc_n h.2.2.2.2.1 hn, h.2.2.2.2.2⟩
theorem kch_b {w : MW} {B : Nat} {s : ZS} {x y : Int} (h : KCh w B s x y) (y0 : 0 ≤ y) : B ≤ y.toNat := by
  rcases h with ⟨a, b, c⟩ | ⟨l, k, el, hl, kl, kb, ey, hc⟩
  · omega
  · omega
/-- the statements of a block -/
theorem cb_57 {oq : OQ} {B P S : MW → (Int32 → MW → Prop) → Prop} {G : MW → Int32 → (Int32 → MW → Prop) → Prop} {f : Int → Int} {n : Int} {nm : List Nm} {op j : Nat} {E : Int32 → Int32 → Int32 → MW → Prop} {Q : Int32 → MW → Prop} {R : ZR → Prop} (hS : ∀ oq : OQ, HCm S 9 op j f n oq nm) (hb : ∀ (x z u : Int32) (w' : MW) (r : ZR), R r → r.1 = false → ZW w' f n nm op r.2.1 → -1 ≤ x.toInt → x.toInt ≤ 300 → E x z u w') (hE : ∀ (x z u : Int32) (w' : MW) (s' : ZS), R (zok s') → (wrd f n s'.1).1 = 125 → ZG w' f n oq nm op j s' → CHc w' s'.2.2.2.1 x.toInt → -1 ≤ x.toInt → x.toInt ≤ 300 → z.toInt = cap (smC (csl s'.2.1 []) 1 s'.2.2.2.1) → u.toInt = mxD (csl s'.2.1 []) 0 s'.2.2.2.1 → E x z u w') (m : Nat) : ∀ (x y z u i : Int32) (w : MW) (s : ZS), ZG w f n oq nm op j s → KCh w oq.2.1 s x.toInt y.toInt → -1 ≤ x.toInt → x.toInt ≤ 300 → -1 ≤ y.toInt → y.toInt ≤ 300 → z.toInt = cap (smC (csl s.2.1 []) 1 s.2.2.2.1) → u.toInt = mxD (csl s.2.1 []) 0 s.2.2.2.1 → 0 ≤ i.toInt → i.toInt ≤ (s.2.1.length : Int) → (∀ r, ZI f n (lkn nm) op 8 0 s r → (r.1 = false ∨ ∃ s', r = zok s') → R r) → 302 - s.2.1.length < m → q_Rd_readBlock_57 B G P S E Q m x y z u i w := by
  induction m with
  | zero => intros; omega
  | succ m ih =>
    intro x y z u i w s hZ hC x0 x1 y0 y1 hz hu i0 i1 hR hm
    have X := hZ.1
    have l3 := X.2.2.2.2.2.1
    have hw := X.2.2.2.1
    have c3 : (w.1 87 3).toInt = (wrd f n s.1).1 := X.2.1.1
    rw [q_Rd_readBlock_57.eq_2, c3]
    refine ⟨fun q => by omega, fun _ => ⟨fun q => by omega, fun _ => ⟨fun k => hE x z u w s (hR _ (ZI_8n k) (Or.inr ⟨s, rfl⟩)) k hZ (kch_c hC) x0 x1 hz hu, fun k => ?_⟩⟩⟩
    refine hS _ s w _ (zg_f hZ) (fun r10 w10 r hr o => ?_)
    rcases o with ⟨s', er, Z', ey, et, e88, e89, nn, eN⟩ | ⟨g, W, r0, r1⟩
    · rw [er] at hr
      obtain ⟨Z', K4⟩ := zg_b hZ Z'
      have l4 := Z'.1.2.2.2.2.2.1
      have pre := zg_pre hZ hr
      have yt : r10.toInt.toNat = s'.2.1.length - 1 := by omega
      rw [yt] at eN
      have kk : s'.2.2.2.1 = s.2.2.2.1 ++ [s'.2.1.length - 1] := by rw [et]
      have kp := kid_pre pre (l := s.2.2.2.1) hZ.2.2.2.2.2.2.2.2
      have gb := gC_cap (ns := s'.2.1) (s'.2.1.length - 1)
      have s0 := smC_0 (acc := csl s.2.1 []) (fun i => (gC_cap i).1) s.2.2.2.1 1 (by decide)
      have cb := cap_b s0
      have sa := ti_add2 hz e88 (by omega) (by omega)
      have ii := ti_add2 (Eq.refl i.toInt) i_1 (by omega) (by omega)
      refine ⟨⟨by omega, by omega⟩, min_x (B := cap (smC (csl s'.2.1 []) 1 s'.2.2.2.1)) sa ?_ (fun r12 e12 => ⟨⟨by omega, by omega⟩, max_x hu e89 (fun r14 e14 => ?_)⟩)⟩
      · rw [kk, smC_1, (kp 1).1, cap_i gb.1]
      · have u2 : r14.toInt = mxD (csl s'.2.1 []) 0 s'.2.2.2.1 := by
          rw [kk, mxD_a, (kp 0).2]
          exact e14
        have RR : ∀ r, ZI f n (lkn nm) op 8 0 s' r → (r.1 = false ∨ ∃ s2, r = zok s2) → R r := fun r h8 ho => hR r (ZI_8 k (by
          rcases ho with hf | ⟨s2, e2⟩
          · exact ZE_g hr rfl (ZE_b h8 hf)
          · rw [e2] at h8 ⊢
            exact ZE_g hr rfl (ZE_g h8 rfl (ZE_n _ _ _ _ _)))) ho
        have qb := hZ.2.1.2.2.1
        refine ⟨fun b0 => ⟨Z'.1.1.2.2.1, ⟨b0, by omega⟩, ?_⟩, fun b0 => ih r10 r10 r12 r14 _ w10 s' Z' (kch_1 hC (by omega) kk ey (by omega) eN) (by omega) (by omega) (by omega) (by omega) e12 u2 (by omega) (by omega) RR (by omega)⟩
        have Z2 := zg_n (v := r10) Z' (by omega) (by omega) (kch_b hC b0) (kch_n hC b0 hZ.2.2.2.2.2.1 hZ.2.2.2.2.2.2.1 hZ.2.2.2.2.2.2.2.2 hr (Or.inr rfl))
        have C2 : KCh (sI w10 114 y.toInt.toNat r10) oq.2.1 s' x.toInt r10.toInt := kch_2 hC b0 nn kk ey (fun c hc hn => by
          rw [sI_ne _ _ _ _ _ (by omega)]
          exact K4 c hc) (by rw [sI_same]) (by
          have : y.toInt.toNat < s.2.1.length := by
            rcases hC with ⟨_, _, _⟩ | ⟨_, _, _, _, _, _, _, _⟩ <;> omega
          rw [sI_ne _ _ _ _ _ (by omega)]
          exact eN)
        exact ih x r10 r12 r14 _ _ s' Z2 C2 x0 x1 (by omega) (by omega) e12 u2 (by omega) (by omega) RR (by omega)
    · have hf := hR r (ZI_8 k (ZE_b hr g)) (Or.inl g)
      have e0 := W.2.2.1
      have out : ∀ (x' y' z' u' i' : Int32) (w' : MW), ZW w' f n nm op r.2.1 → -1 ≤ x'.toInt → x'.toInt ≤ 300 → q_Rd_readBlock_57 B G P S E Q m x' y' z' u' i' w' := fun x' y' z' u' i' w' W' a0 a1 => by
        have ew := W'.2.1
        cases m with
        | zero => omega
        | succ m =>
          rw [q_Rd_readBlock_57.eq_2]
          exact ⟨fun _ => hb x' z' u' w' r hf g W' a0 a1, fun _ => ⟨fun _ => hb x' z' u' w' r hf g W' a0 a1, fun q => absurd (show 0 ≤ (w'.1 87 9).toInt by omega) q⟩⟩
      refine ⟨⟨r0, r1⟩, min_w (fun r12 => ⟨⟨r0, r1⟩, max_w (fun r14 => ⟨fun b0 => ⟨W.1.2.2.1, ⟨b0, by omega⟩, ?_⟩, fun _ => out _ _ _ _ _ w10 W (by omega) (by omega)⟩)⟩)⟩
      have F : FR [(114, none)] w10 (sI w10 114 y.toInt.toNat r10) := FR.I (FR.refl _ w10) rfl
      exact out _ _ _ _ _ _ (zw_st W F (wbd_114 W.1.1 _ (by omega) (by omega)) rfl) x0 x1
/-- a node whose first, size and depth are stored -/
theorem cm_st {oq : OQ} {w : MW} {f : Int → Int} {n : Int} {nm : List Nm} {op j : Nat} {t : ZS} {a b fi sz dp : Int32} {d : Nod} {Q : Int32 → MW → Prop} (h : ZG w f n oq nm op j t) (ha : a.toInt = d.1) (hb : b.toInt = d.2.1) (hd : ¬ d.1 = 31) (x0 : -1 ≤ fi.toInt) (x1 : fi.toInt ≤ 300) (hne : nxp d.1 = 0) (hkk : ∀ c ∈ d.2.2.2, c < t.2.1.length) (hch : CHc w d.2.2.2 fi.toInt) (hs : sz.toInt = (cs1 (csl t.2.1 []) d).1) (hp : dp.toInt = (cs1 (csl t.2.1 []) d).2) (hQ : ∀ (y : Int32) (w' : MW), MKo w w' f n nm op t d y → Q y w') : p_Rd_makeNode w a b (fun r20 w20 => ((w20.2.2 87 1 = some 108) ∧ ((0 ≤ r20.toInt ∧ r20.toInt < 301) ∧ ((0 ≤ r20.toInt ∧ r20.toInt < 301) ∧ ((0 ≤ r20.toInt ∧ r20.toInt < 301) ∧ (Q r20 (sI (sI (sI w20 113 r20.toInt.toNat fi) 88 r20.toInt.toNat sz) 89 r20.toInt.toNat dp))))))) := by
  have l3 := h.1.2.2.2.2.2.1
  refine cm_mk h ha hb hd (fun n3 w' W' => ?_) (fun n3 w' X' e8 e0 e88 e89 ev => ?_)
  · have F : FR [(88, none), (89, none), (113, none)] w' (sI (sI (sI w' 113 (nI 300).toInt.toNat fi) 88 (nI 300).toInt.toNat sz) 89 (nI 300).toInt.toNat dp) := FR.I (FR.I (FR.I (FR.refl _ w') rfl) rfl) rfl
    have r3 : (nI 300).toInt = 300 := by decide
    exact ⟨W'.1.2.2.1, ⟨by omega, by omega⟩, ⟨by omega, by omega⟩, ⟨by omega, by omega⟩, hQ _ _ (Or.inl ⟨n3, zw_st W' F (wbd_89 (wbd_88 (wbd_113 W'.1.1 _ x0 x1) _) _) rfl, by omega, by omega⟩)⟩
  · have tl : (nI t.2.1.length).toInt = (t.2.1.length : Int) := nI_toInt (by omega)
    have tt : (nI t.2.1.length).toInt.toNat = t.2.1.length := by omega
    rw [tt]
    have F : FR [(88, none), (89, none), (113, none)] w' (sI (sI (sI w' 113 t.2.1.length fi) 88 t.2.1.length sz) 89 t.2.1.length dp) := FR.I (FR.I (FR.I (FR.refl _ w') rfl) rfl) rfl
    have S1 : S0 w (sI (sI (sI w' 113 t.2.1.length fi) 88 t.2.1.length sz) 89 t.2.1.length dp) := ⟨(F 108 0 rfl).1.trans e0.1, (F 108 2 rfl).1.trans e0.2⟩
    have e9 : E6 w (sI (sI (sI w' 113 t.2.1.length fi) 88 t.2.1.length sz) 89 t.2.1.length dp) t.2.1.length := fun k hk => by
      have q := e8 k hk
      refine ⟨?_, ?_, (F 111 k rfl).1.trans q.2.2.1, (F 112 k rfl).1.trans q.2.2.2.1, ?_, (F 114 k rfl).1.trans q.2.2.2.2.2⟩
      · rw [sI_oth _ _ _ _ _ _ (by decide), sI_ne _ _ _ _ _ (by omega), sI_oth _ _ _ _ _ _ (by decide)]
        exact q.1
      · rw [sI_ne _ _ _ _ _ (by omega), sI_oth _ _ _ _ _ _ (by decide), sI_oth _ _ _ _ _ _ (by decide)]
        exact q.2.1
      · rw [sI_oth _ _ _ _ _ _ (by decide), sI_oth _ _ _ _ _ _ (by decide), sI_ne _ _ _ _ _ (by omega)]
        exact q.2.2.2.2.1
    refine ⟨X'.1.2.2.1, ⟨by omega, by omega⟩, ⟨by omega, by omega⟩, ⟨by omega, by omega⟩, hQ _ _ (Or.inr ⟨n3, tl, xs_st X' F (wbd_89 (wbd_88 (wbd_113 X'.1.1 _ x0 x1) _) _) rfl, mko_f h.2.2.2.2.1 e9 S1, S1, ?_, ?_, ⟨hkk, ?_, Or.inl ⟨hne, ?_⟩⟩, ?_⟩)⟩
    · rw [sI_oth _ _ _ _ _ _ (by decide), sI_same]
      exact hs
    · rw [sI_same]
      exact hp
    · rw [hne, sI_oth _ _ _ _ _ _ (by decide), sI_oth _ _ _ _ _ _ (by decide), sI_same]
      exact chc_k _ _ hch (fun c hc => (e9 c (hkk c hc)).2.2.2.2.2)
    · rw [(F 111 _ rfl).1, (F 112 _ rfl).1]
      have a := ev.1
      have b := ev.2.1
      omega
    · rw [(F 114 _ rfl).1]
      exact ev.2.2.2
/-- a block -/
theorem c_blk {oq : OQ} {B P S : MW → (Int32 → MW → Prop) → Prop} {G : MW → Int32 → (Int32 → MW → Prop) → Prop} {f : Int → Int} {n : Int} {nm : List Nm} {op j : Nat} (ho : op ≤ 20) (hS : op < 20 → ∀ oq : OQ, HCm S 9 (op + 1) j f n oq nm) : HCm (pb_Rd_readBlock B G P S) 4 op j f n oq nm := by
  intro s w Q hZ hQ
  have X := hZ.1
  have hw := X.2.2.2.1
  have c3 : (w.1 87 3).toInt = (wrd f n s.1).1 := X.2.1.1
  have hop : (w.1 87 8).toInt = (op : Int) := X.1.2.2.2.2.2.2.2.1
  have nob : ¬ ((wrd f n s.1).1 = 123 ∧ op < 20) → p_Rd_fail w (fun w4 => (Q 0 w4)) := fun no => fl_g X (fun w' F' X' => hQ 0 w' (zer (wrd f n s.1).2.1) (ZI_4b no) (Or.inr ⟨rfl, zw_of X', by decide, by decide⟩))
  refine Eq.mpr (pb_Rd_readBlock.eq_1 _ _ _ _ _ _) ⟨fun z => absurd z (by omega), fun _ => ?_⟩
  rw [c3]
  refine ⟨fun z => nob (fun q => z q.1), fun z => ⟨fun o => ?_, fun o => nob (fun q => by omega)⟩⟩
  have k := Classical.not_not.mp z
  have o20 : op < 20 := by omega
  have s8 := ti_add2 hop i_1 (by omega) (by omega)
  have X1 := xs_op (op' := op + 1) (v := (w.1 87 8) + (1 : Int32)) X (by omega) (by omega)
  have F1 : FR [(87, some 8)] w (sI w 87 8 ((w.1 87 8) + (1 : Int32))) := FR.I (FR.refl _ w) rfl
  have Z1 : ZG (sI w 87 8 ((w.1 87 8) + (1 : Int32))) f n oq nm (op + 1) j (zin s) := by
    have t := zg_x hZ X1 (fr_89 F1 rfl _) (s0_fr F1 rfl) (0, 0, 0)
    exact ⟨t.1, t.2.1, t.2.2.1, t.2.2.2.1, t.2.2.2.2.1, t.2.2.2.2.2.1, t.2.2.2.2.2.2.1, t.2.2.2.2.2.2.2.1, fun c hc => (by cases hc)⟩
  have fu : (1000 : Nat) < FU := fu_lt (by decide)
  have wrong : ∀ (y : Int32) (w' : MW) (r1 : ZR), ZE f n (lkn nm) (op + 1) [(0, 123), (8, 0), (0, 125)] (zin s) r1 → r1.1 = false → ZW w' f n nm op r1.2.1 → 0 ≤ y.toInt → y.toInt < 301 → Q y w' := fun y w' r1 hE hf W y0 y1 => hQ y w' r1 (ZI_4 ⟨k, o20⟩ hE (by rw [if_neg (by rw [hf]; decide)])) (Or.inr ⟨hf, W, y0, y1⟩)
  have tailw : ∀ (x z u : Int32) (w8 : MW) (r1 : ZR), ZE f n (lkn nm) (op + 1) [(0, 123), (8, 0), (0, 125)] (zin s) r1 → r1.1 = false → ZW w8 f n nm (op + 1) r1.2.1 → -1 ≤ x.toInt → x.toInt ≤ 300 → p_Rd_makeNode (sI w8 87 8 ((w8.1 87 8) - (1 : Int32))) 35 0 (fun r20 w20 => ((w20.2.2 87 1 = some 108) ∧ ((0 ≤ r20.toInt ∧ r20.toInt < 301) ∧ ((0 ≤ r20.toInt ∧ r20.toInt < 301) ∧ ((0 ≤ r20.toInt ∧ r20.toInt < 301) ∧ (Q r20 (sI (sI (sI w20 113 r20.toInt.toNat x) 88 r20.toInt.toNat z) 89 r20.toInt.toNat (u + (1 : Int32))))))))) := fun x z u w8 r1 hE hf W x0 x1 => by
    have h8 : (w8.1 87 8).toInt = ((op + 1 : Nat) : Int) := W.1.2.2.2.2.2.2.2.1
    have s9 := ti_sub2 h8 i_1 (by omega) (by omega)
    refine cw_mk (zw_op (op' := op) W (by omega) ho) (fun r20 w20 r0 r2 W2 => ?_)
    have F : FR [(88, none), (89, none), (113, none)] w20 (sI (sI (sI w20 113 r20.toInt.toNat x) 88 r20.toInt.toNat z) 89 r20.toInt.toNat (u + (1 : Int32))) := FR.I (FR.I (FR.I (FR.refl _ w20) rfl) rfl) rfl
    exact ⟨W2.1.2.2.1, ⟨r0, r2⟩, ⟨r0, r2⟩, ⟨r0, r2⟩, wrong _ _ r1 hE hf (zw_st W2 F (wbd_89 (wbd_88 (wbd_113 W2.1.1 _ x0 x1) _) _) rfl) r0 r2⟩
  have loopw : ∀ (r1 : ZR) (w6 : MW), ZE f n (lkn nm) (op + 1) [(0, 123), (8, 0), (0, 125)] (zin s) r1 → r1.1 = false → ZW w6 f n nm (op + 1) r1.2.1 → ∀ m, 0 < m → ∀ (E : Int32 → Int32 → Int32 → MW → Prop), E (-1) 1 0 w6 → q_Rd_readBlock_57 B G P S E Q m (-1) (-1) 1 0 0 w6 := fun r1 w6 hE hf W m hm E e => by
    have e0 := W.2.2.1
    have ew := W.2.1
    cases m with
    | zero => omega
    | succ m =>
      rw [q_Rd_readBlock_57.eq_2]
      exact ⟨fun _ => e, fun _ => ⟨fun _ => e, fun q => absurd (show 0 ≤ (w6.1 87 9).toInt by omega) q⟩⟩
  refine ct_go Z1 k (fun w6 r hz hf W => loopw r w6 (ZE_b hz hf) hf W FU (by omega) _ (cw_tk W (tailw _ _ _ w6 r (ZE_b hz hf) hf W (by decide) (by decide)))) (fun w6 s6 hz es F6 Z6 => ?_)
  have k0 : s6.2.2.2.1 = [] := by
    rw [es]
    rfl
  have l6 := Z6.1.2.2.2.2.2.1
  refine cb_57 (R := fun r => ZI f n (lkn nm) (op + 1) 8 0 s6 r) (hS o20) (fun x z u w' r h8 hf W x0 x1 => cw_tk W (tailw x z u w' r (ZE_g hz rfl (ZE_b h8 hf)) hf W x0 x1)) (fun x z u w' s' h8 k125 Z' hch x0 x1 ez eu => ?_) FU (-1) (-1) 1 0 0 w6 s6 Z6 (Or.inl ⟨k0, by decide, by decide⟩) (by decide) (by decide) (by decide) (by decide) (by rw [k0]; show (1 : Int32).toInt = cap 1; decide) (by rw [k0]; show (0 : Int32).toInt = 0; decide) (by decide) (by rw [i_0]; omega) (fun r h8 _ => h8) (by omega)
  refine ct_tk (c := 125) Z' (by decide) (fun w8 r hz2 hf W => tailw x z u w8 r (ZE_g hz rfl (ZE_g h8 rfl (ZE_b hz2 hf))) hf W x0 x1) (fun w8 s8' hz2 es2 F8 Z8 => ?_)
  have inside : ZE f n (lkn nm) (op + 1) [(0, 123), (8, 0), (0, 125)] (zin s) (zok s8') := ZE_g hz rfl (ZE_g h8 rfl (ZE_g hz2 rfl (ZE_n _ _ _ _ _)))
  obtain ⟨kz, hkz⟩ := id inside
  have lo := ZZ_lo f n (lkn nm) kz _ _ _ _ hkz rfl hZ.2.2.2.2.2.1 hZ.2.2.2.2.2.2.1 (fun c hc => (by cases hc)) s.2.1.length (Nat.le_refl _) (fun c hc => (by cases hc))
  have h8' : (w8.1 87 8).toInt = ((op + 1 : Nat) : Int) := Z8.1.1.2.2.2.2.2.2.2.1
  have s9 := ti_sub2 h8' i_1 (by omega) (by omega)
  have F9 : FR [(87, some 8)] w8 (sI w8 87 8 ((w8.1 87 8) - (1 : Int32))) := FR.I (FR.refl _ w8) rfl
  have Z9 : ZG (sI w8 87 8 ((w8.1 87 8) - (1 : Int32))) f n oq nm op j s8' := by
    have t := zg_x Z8 (xs_op (op' := op) (v := (w8.1 87 8) - (1 : Int32)) Z8.1 (by omega) ho) (fr_89 F9 rfl _) (s0_fr F9 rfl) s8'.2.2.2.2
    exact t
  have mr := mxD_r Z8.2.2.2.2.2.1 Z8.2.2.2.2.2.2.2.2
  have e1 : s8'.2.1 = s'.2.1 := by rw [es2]
  have e2 : s8'.2.2.2.1 = s'.2.2.2.1 := by rw [es2]
  rw [e1, e2] at mr
  have l8 := Z8.1.2.2.2.2.2.1
  rw [e1] at l8
  have su := ti_add2 eu i_1 (by omega) (by omega)
  have cs : cs1 (csl s8'.2.1 []) (35, 0, 0, s8'.2.2.2.1) = (cap (smC (csl s'.2.1 []) 1 s'.2.2.2.1), mxD (csl s'.2.1 []) 0 s'.2.2.2.1 + 1) := by
    unfold cs1
    rw [if_neg (show ¬ (35 : Int) = 23 by decide)]
    show (cap (smC (csl s8'.2.1 []) (own 35) s8'.2.2.2.1), mxD (csl s8'.2.1 []) 0 s8'.2.2.2.1 + (if (35 : Int) = 35 then 1 else 0)) = _
    rw [e1, e2, if_pos rfl, show own 35 = 1 by decide]
  have pre : PRE s.2.1 s8'.2.1 := by
    have p1 := zg_pre Z6 h8
    rw [e1]
    have e6 : s6.2.1 = s.2.1 := by
      rw [es]
      rfl
    rw [e6] at p1
    exact p1
  refine cm_st (d := (35, 0, 0, s8'.2.2.2.1)) Z9 (show (35 : Int32).toInt = 35 by decide) (show (0 : Int32).toInt = 0 by decide) (show ¬ (35 : Int) = 31 by decide) x0 x1 (show nxp 35 = 0 by decide) (fun c hc => Z8.2.2.2.2.2.2.2.2 c hc) ?_ (by rw [cs]; exact ez) (by rw [cs]; exact su) (fun y w' o => ?_)
  · show CHc _ s8'.2.2.2.1 x.toInt
    rw [e2]
    exact chc_k _ _ hch (fun c _ => ((F9 114 c rfl).1.trans (F8 114 c rfl).1))
  exact mko_cr (m := 0) (c := 4) (op' := op) (s := s) Z9 (by omega) (by decide) (by decide) o (fun c hc => Z8.2.2.2.2.2.2.2.2 c hc) (fun c hc => by
    have a : s.2.1.length ≤ c := lo.2 c hc
    have b := hZ.2.1.2.2.1
    omega) (fun z => absurd (show (35 : Int) = 23 from z) (by decide)) hZ.2.2.2.2.2.2.2.2 pre (fun r er => ZI_4 ⟨k, o20⟩ inside (by
    show (if true = true then _ else _)
    rw [if_pos rfl]
    exact er)) hQ
