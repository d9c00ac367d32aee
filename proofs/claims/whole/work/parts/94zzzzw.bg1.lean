/-! a begin on both sides: what the class writes, what the reference goes on with -/
/-- the class chooses what is inside -/
theorem ci_x {v : MW} {s : Nat} {a b : Int32} (ea : a.toInt.toNat = s) (hB : BND v) (b0 : -1 ≤ b.toInt) (b5 : b.toInt ≤ 500) (bs : b.toInt = -1 ∨ (s : Int) < b.toInt) : BND (chW (sI v 80 a.toInt.toNat 1) a b) ∧ FR [(80, none), (81, none)] v (chW (sI v 80 a.toInt.toNat 1) a b) ∧ stg (chW (sI v 80 a.toInt.toNat 1) a b) s = 1 ∧ (chW (sI v 80 a.toInt.toNat 1) a b).1 81 s = b ∧ (∀ x : Nat, b.toInt = (x : Int) → stg (chW (sI v 80 a.toInt.toNat 1) a b) x = 0) ∧ (∀ j : Nat, ¬ j = s → ¬ (j : Int) = b.toInt → (chW (sI v 80 a.toInt.toNat 1) a b).1 80 j = v.1 80 j) ∧ (∀ j : Nat, ¬ j = s → (chW (sI v 80 a.toInt.toNat 1) a b).1 81 j = v.1 81 j) := by
  unfold chW
  rw [ea]
  by_cases q : b.toInt < 0
  · rw [if_pos q]
    refine ⟨wbd_81 (wbd_80 hB s (by decide) (by decide)) s b0 b5, FR.I (FR.I (FR.refl _ v) rfl) rfl, ?_, sI_same _ _ _ _, fun x hx => by omega, fun j j1 j2 => ?_, fun j j1 => ?_⟩
    · unfold stg
      rw [sI_oth _ _ _ _ _ _ (by decide), sI_same]
      decide
    · rw [sI_oth _ _ _ _ _ _ (by decide), sI_ne _ _ _ _ _ j1]
    · rw [sI_ne _ _ _ _ _ j1, sI_oth _ _ _ _ _ _ (by decide)]
  · rw [if_neg q]
    have sb : ¬ s = b.toInt.toNat := by omega
    refine ⟨wbd_80 (wbd_81 (wbd_80 hB s (by decide) (by decide)) s b0 b5) _ (by decide) (by decide), FR.I (FR.I (FR.I (FR.refl _ v) rfl) rfl) rfl, ?_, ?_, fun x hx => ?_, fun j j1 j2 => ?_, fun j j1 => ?_⟩
    · unfold stg
      rw [sI_ne _ _ _ _ _ sb, sI_oth _ _ _ _ _ _ (by decide), sI_same]
      decide
    · rw [sI_oth _ _ _ _ _ _ (by decide), sI_same]
    · have e : b.toInt.toNat = x := by omega
      unfold stg
      rw [e, sI_same]
      decide
    · rw [sI_ne _ _ _ _ _ (by omega), sI_oth _ _ _ _ _ _ (by decide), sI_ne _ _ _ _ _ j1]
    · rw [sI_oth _ _ _ _ _ _ (by decide), sI_ne _ _ _ _ _ j1, sI_oth _ _ _ _ _ _ (by decide)]
theorem sd_c (v : MW) (a : Int32) : sI (sI v 80 a.toInt.toNat 1) 81 a.toInt.toNat (-1) = chW (sI v 80 a.toInt.toNat 1) a (-1) := by
  unfold chW
  rw [if_pos (show (-1 : Int32).toInt < 0 by decide)]
/-- both sides behind a step, put together -/
theorem pol_b {GoW : MW → MW → Prop} {ns : List Nod} {nm : List Nm} {ks : List Nat} {off : Int} {v w v' w' : MW} {s m : Nat} (hG : GoI GoW) (hW : WS GoW ns nm ks off v w) (B : BND v') (B' : BND w') (F : FR lrC v v') (F' : FR lrM w w') (vl : VlR v' w') (al : AlR v' w') (cn : CnR off v' w') (A : ∀ j : Nat, (j < s ∨ m ≤ j) → v'.1 80 j = v.1 80 j ∧ v'.1 81 j = v.1 81 j ∧ v'.2.1 82 j = v.2.1 82 j ∧ v'.2.1 83 j = v.2.1 83 j ∧ v'.2.1 84 j = v.2.1 84 j ∧ v'.2.1 85 j = v.2.1 85 j) (A' : ∀ j : Nat, (j < s ∨ m ≤ j) → w'.1 210 j = w.1 210 j ∧ w'.1 211 j = w.1 211 j ∧ w'.1 212 j = w.1 212 j ∧ w'.1 213 j = w.1 213 j ∧ w'.1 214 j = w.1 214 j ∧ w'.2.1 215 j = w.2.1 215 j ∧ w'.2.1 216 j = w.2.1 216 j ∧ w'.2.1 217 j = w.2.1 217 j) (mn : MnR false v w v' w') : PoL false GoW ns nm ks off v w v' w' s m := by
  have t : ∀ j : Nat, (j < s ∨ m ≤ j) → (v'.1 78 j = v.1 78 j ∧ v'.1 79 j = v.1 79 j ∧ v'.1 80 j = v.1 80 j ∧ v'.1 81 j = v.1 81 j ∧ v'.2.1 82 j = v.2.1 82 j ∧ v'.2.1 83 j = v.2.1 83 j ∧ v'.2.1 84 j = v.2.1 84 j ∧ v'.2.1 85 j = v.2.1 85 j) ∧ (w'.1 210 j = w.1 210 j ∧ w'.1 211 j = w.1 211 j ∧ w'.1 212 j = w.1 212 j ∧ w'.1 213 j = w.1 213 j ∧ w'.1 214 j = w.1 214 j ∧ w'.2.1 215 j = w.2.1 215 j ∧ w'.2.1 216 j = w.2.1 216 j ∧ w'.2.1 217 j = w.2.1 217 j) := fun j hj => ⟨⟨(F 78 j rfl).1, (F 79 j rfl).1, A j hj⟩, A' j hj⟩
  exact pol_i (ws_f hG hW B B' F F' vl al cn) F (fun j _ jb => t j (Or.inl jb)) (fun j ja _ => t j (Or.inr ja)) mn
theorem y208 (w : MW) (s : Nat) (x : Int64) (j : Nat) : (b3W w s x).1 208 j = w.1 208 j ∧ (b3W w s x).1 209 j = w.1 209 j ∧ (b3W w s x).2.1 132 j = w.2.1 132 j ∧ (b3W w s x).2.1 206 j = w.2.1 206 j := by
  have F : FR [(210, none), (213, none), (214, none), (216, none)] w (b3W w s x) := FR.J (FR.I (FR.I (FR.I (FR.refl _ w) rfl) rfl) rfl) rfl
  exact ⟨(F 208 j rfl).1, (F 209 j rfl).1, (F 132 j rfl).2.1, (F 206 j rfl).2.1⟩
/-- the kids of a place, behind the reference's writes -/
theorem bt_x {ns : List Nod} {v : MW} {E : MW → Prop} {Q : Int32 → MW → Prop} {l : List Nat} {s m : Nat} {x : Int32} {w2 : MW} (h : q_Mo_begin_538 E Q FU x w2) (ex : x.toInt = fiC v s) (hL : Lz ns v l (s + 1) (fiC v s) m) (hn : ∀ j : Nat, (j : Int) < (v.1 61 5).toInt → v.1 79 j = w2.1 209 j) (hp : (m : Int) ≤ (v.1 61 5).toInt) (hB : BND w2) : ∃ w', E w' ∧ FR [(210, none), (212, none)] w2 w' ∧ BND w' ∧ AO0 v w' l (fiC v s) ∧ (∀ j : Nat, (j < s + 1 ∨ m ≤ j) → w'.1 210 j = w2.1 210 j ∧ w'.1 212 j = w2.1 212 j) ∧ (∀ j : Nat, w'.1 210 j = w2.1 210 j ∨ (w'.1 210 j).toInt = 0) := b5_x l FU (s + 1) m x (fiC v s) w2 h ex hL (fun j ja jb => by
  rw [← hn j (by omega)]
  rfl) hB
/-- the reference, by kinds -/
theorem b248_d {a n K nd : Int32} {x y : Int64} {w : MW} {Q : Int32 → MW → Prop} {s : Nat} (h : q_Mo_begin_248 a n K nd x y a (b3W w s x) Q) (ea : a.toInt.toNat = s) (hk : ¬ K.toInt = 10 ∧ ¬ K.toInt = 13 ∧ ¬ K.toInt = 12 ∧ ¬ K.toInt = 15 ∧ ¬ K.toInt = 17 ∧ ¬ K.toInt = 21 ∧ ¬ K.toInt = 22) : q_Mo_begin_538 (fun w' => Q 1 w') Q FU (w.1 208 s) (bxW w s x (y / (1000 : Int64))) := by
  rw [q_Mo_begin_248.eq_1, ea, (y208 w s x s).1] at h
  exact (((((((h.2.2.2.1 hk.1).1 hk.2.1).1 hk.2.2.1).1 hk.2.2.2.1).1 hk.2.2.2.2.1).1 hk.2.2.2.2.2.1).1 hk.2.2.2.2.2.2).2
theorem b248_21 {a n K nd : Int32} {x y : Int64} {w : MW} {Q : Int32 → MW → Prop} {s : Nat} (h : q_Mo_begin_248 a n K nd x y a (b3W w s x) Q) (ea : a.toInt.toNat = s) (hk : K.toInt = 21) : q_Mo_begin_538 (fun w' => Q 1 w') Q FU (w.1 208 s) (sI (bxW w s x (y / (1000 : Int64))) 127 75 1) := by
  rw [q_Mo_begin_248.eq_1, ea, (y208 w s x s).1] at h
  exact ((((((h.2.2.2.1 (by omega)).1 (by omega)).1 (by omega)).1 (by omega)).1 (by omega)).2 (fun z => z hk)).2
theorem b248_22 {a n K nd : Int32} {x y : Int64} {w : MW} {Q : Int32 → MW → Prop} {s : Nat} (h : q_Mo_begin_248 a n K nd x y a (b3W w s x) Q) (ea : a.toInt.toNat = s) (hk : K.toInt = 22) : p_Mo_perform (bxW w s x (y / (1000 : Int64))) (Int64.toInt32 (w.2.1 132 nd.toInt.toNat)) (fun r35 w35 => ((r35.toInt ≤ 0 → ((0 ≤ a.toInt ∧ a.toInt < 502) ∧ (q_Mo_begin_538 (fun (w38 : MW) => (Q 1 w38)) Q FU (w35.1 208 s) w35))) ∧ (¬ (r35.toInt ≤ 0) → (p_Mo_raise w35 n ((10 : Int32) + r35) (fun w39 => ((0 ≤ a.toInt ∧ a.toInt < 502) ∧ (q_Mo_begin_538 (fun (w41 : MW) => (Q 1 w41)) Q FU (w39.1 208 s) w39))))))) := by
  rw [q_Mo_begin_248.eq_1, ea, (y208 w s x nd.toInt.toNat).2.2.1] at h
  exact (((((((h.2.2.2.1 (by omega)).1 (by omega)).1 (by omega)).1 (by omega)).1 (by omega)).1 (by omega)).2 (fun z => z hk))
theorem b248_12 {a n K nd : Int32} {x y : Int64} {w : MW} {Q : Int32 → MW → Prop} {s : Nat} (h : q_Mo_begin_248 a n K nd x y a (b3W w s x) Q) (ea : a.toInt.toNat = s) (hk : K.toInt = 12) : ((lg_cmp x (0 : Int64)).toInt = 0 → q_Mo_begin_538 (fun w' => Q 1 w') Q FU (w.1 208 s) (sI (bxW w s x (y / (1000 : Int64))) 211 s (vp_nar .boolean (0 : Int32)))) ∧ (¬ (lg_cmp x (0 : Int64)).toInt = 0 → q_Mo_begin_538 (fun w' => Q 1 w') Q FU (w.1 208 s) (sI (bxW w s x (y / (1000 : Int64))) 211 s (vp_nar .boolean (1 : Int32)))) := by
  rw [q_Mo_begin_248.eq_1, ea, (y208 w s x s).1] at h
  have t := ((h.2.2.2.1 (by omega)).1 (by omega)).2 (fun z => z hk)
  exact ⟨fun z => (t.1 z).2.2, fun z => (t.2 z).2.2⟩
theorem b248_10 {a n K nd : Int32} {x y : Int64} {w : MW} {Q : Int32 → MW → Prop} {s : Nat} (h : q_Mo_begin_248 a n K nd x y a (b3W w s x) Q) (ea : a.toInt.toNat = s) (hk : K.toInt = 10) : q_Mo_begin_538 (fun w' => Q 1 w') Q FU (w.1 208 s) (sJ (bxW w s x (y / (1000 : Int64))) 206 ((Int64.toInt32 (w.2.1 132 nd.toInt.toNat)).toInt.toNat) x) := by
  rw [q_Mo_begin_248.eq_1, ea, (y208 w s x s).1, (y208 w s x nd.toInt.toNat).2.2.1] at h
  exact (h.2.2.2.2 (fun z => z hk)).2.2
theorem b248_15 {a n K nd : Int32} {x y : Int64} {w : MW} {Q : Int32 → MW → Prop} {s : Nat} (h : q_Mo_begin_248 a n K nd x y a (b3W w s x) Q) (ea : a.toInt.toNat = s) (hk : K.toInt = 15) : ((lg_cmp x (0 : Int64)).toInt = 0 → q_Mo_begin_538 (fun w' => Q 1 w') Q FU (w.1 208 s) (sI (bxW w s x (y / (1000 : Int64))) 213 s (w.1 209 ((w.1 208 s).toInt.toNat)))) ∧ (¬ (lg_cmp x (0 : Int64)).toInt = 0 → q_Mo_begin_538 (fun w' => Q 1 w') Q FU (w.1 208 s) (sI (bxW w s x (y / (1000 : Int64))) 213 s (w.1 208 s))) := by
  rw [q_Mo_begin_248.eq_1, ea, (y208 w s x s).1, (y208 w s x ((w.1 208 s).toInt.toNat)).2.1] at h
  have t := (((h.2.2.2.1 (by omega)).1 (by omega)).1 (by omega)).2 (fun z => z hk)
  exact ⟨fun z => (t.1 z).2.2.2.2, fun z => (t.2 z).2.2.2⟩
theorem b248_17 {a n K nd : Int32} {x y : Int64} {w : MW} {Q : Int32 → MW → Prop} {s : Nat} (h : q_Mo_begin_248 a n K nd x y a (b3W w s x) Q) (ea : a.toInt.toNat = s) (hk : K.toInt = 17) : ((lg_cmp x (0 : Int64)).toInt = 0 → q_Mo_begin_538 (fun w' => Q 1 w') Q FU ((alM (sI (bxW w s x (y / (1000 : Int64))) 213 s (w.1 209 ((w.1 208 s).toInt.toNat))) n 3).1 208 s) (alM (sI (bxW w s x (y / (1000 : Int64))) 213 s (w.1 209 ((w.1 208 s).toInt.toNat))) n 3)) ∧ (¬ (lg_cmp x (0 : Int64)).toInt = 0 → q_Mo_begin_538 (fun w' => Q 1 w') Q FU (w.1 208 s) (sI (bxW w s x (y / (1000 : Int64))) 213 s (w.1 208 s))) := by
  rw [q_Mo_begin_248.eq_1, ea, (y208 w s x s).1, (y208 w s x ((w.1 208 s).toInt.toNat)).2.1] at h
  have t := ((((h.2.2.2.1 (by omega)).1 (by omega)).1 (by omega)).1 (by omega)).2 (fun z => z hk)
  have e8 : (bxW w s x (y / (1000 : Int64))).1 208 s = w.1 208 s := (bx_f w s x _ 208 s rfl).1
  refine ⟨fun z => ?_, fun z => ?_⟩
  · have t1 := (t.1 z).2.2
    rw [q_Mo_begin_470.eq_1, ea] at t1
    exact (al_m (t1.2.2 (fun y => y z))).2
  · have t1 := (t.2 z).2
    rw [q_Mo_begin_470.eq_1, ea] at t1
    have t2 := (t1.2.1 z).2
    have e9 : (sI (sJ (b3W w s x) 215 s (y / (1000 : Int64))) 211 s (vp_nar .boolean (0 : Int32))).1 208 s = w.1 208 s := e8
    rw [e9] at t2
    exact t2
/-- the number that a node holds -/
theorem nm_x {ns : List Nod} {w : MW} {c : Nat} {d : Nod} {i : Nat} (hS : StM ns w) (hd : ns[c]? = some d) (hi : i = nd1 w (c : Int)) (k1 : ¬ d.1 = 31) (k2 : ¬ d.1 = 10) (b0 : -2147483648 ≤ d.2.1) (b1 : d.2.1 ≤ 2147483647) : (Int64.toInt32 (w.2.1 132 i)).toInt = d.2.1 := by
  have e := (hS.2.2 c d hd).2.2.1 k1 k2
  rw [hi, nb_l2i (by omega) (by omega)]
  exact e
/-- what is inside has not begun -/
def NBg (ns : List Nod) (v : MW) (c s : Nat) (d : Nod) : Prop := (d.1 = 16 → SO0 v v (kdl ns c) (fiC v s)) ∧ (¬ d.1 = 16 → 0 ≤ cuC v s → stg v (cuC v s).toNat = 0)
/-- what stands of a begin: kinds, answers -/
def BgO (GoW : MW → MW → Prop) (ns : List Nod) (nm : List Nm) (ks : List Nat) (off : Int) (k c s m : Nat) (d : Nod) (v w v' w' : MW) (ac : Int32) : Prop := PoL false GoW ns nm ks off v w v' w' s m ∧ (v.1 61 19).toInt ≤ (v'.1 61 19).toInt ∧ ((ac.toInt = 2 ∧ (v'.1 61 4).toInt = 0 ∧ Dy ns off v' w' (k + 2) c s ∧ stg v' s = 1 ∧ (d.1 = 16 ∨ d.1 = 19 ∨ d.1 = 17 ∨ d.1 = 20 ∨ d.1 = 23) ∧ NBg ns v' c s d) ∨ (ac.toInt = 0 ∧ (v'.1 61 4).toInt = 0 ∧ Dy ns off v' w' (k + 2) c s ∧ stg v' s = 1 ∧ w'.1 214 s = w'.1 127 74 ∧ (d.1 = 12 ∨ d.1 = 13 ∨ d.1 = 14 ∨ d.1 = 22) ∧ (d.1 = 12 → 0 < (w'.2.1 215 s).toInt) ∧ (d.1 = 22 → dnM w' s = 0)) ∨ (ac.toInt = 0 ∧ (v'.1 61 4).toInt = 3 ∧ d.1 = 24) ∨ (ac.toInt = 1 ∧ (v'.1 61 4).toInt = 0 ∧ (d.1 = 11 ∨ d.1 = 25 ∨ d.1 = 26 ∨ (d.1 = 12 ∧ (w'.2.1 215 s).toInt ≤ 0 ∧ w'.1 214 s = w'.1 127 74) ∨ (d.1 = 13 ∧ dnM w' s = 1) ∨ (d.1 = 14 ∧ dnM w' s = 1 ∧ w'.2.1 216 s = w'.2.1 206 d.2.1.toNat))) ∨ (ac.toInt = 2 ∧ (v'.1 61 4).toInt = 0 ∧ d.1 = 17 ∧ cuC v' s = -1 ∧ crM w' s = -1))
/-- where a statement lies, and what it is -/
def SmL (ns : List Nod) (v : MW) (c s m : Nat) (d : Nod) (as am : Int32) : Prop := as.toInt.toNat = s ∧ am.toInt.toNat = s ∧ (v.1 77 s).toInt = (c : Int) ∧ ns[c]? = some d ∧ isS d.1 = true ∧ Lz ns v (kdl ns c) (s + 1) (fiC v s) m ∧ s < m ∧ (m : Int) ≤ (v.1 61 5).toInt ∧ (v.1 61 4).toInt = 0
theorem so_f {ns : List Nod} {v v2 v' : MW} : ∀ (l : List Nat) (a q : Nat) (h : Int), Lz ns v l a h q → (∀ j : Nat, a ≤ j → v'.1 80 j = v2.1 80 j) → SO0 v v2 l h → SO0 v v' l h := by
  intro l
  induction l with
  | nil => exact fun _ _ _ _ _ _ => trivial
  | cons c cs ih =>
    intro a q h hL hj o
    obtain ⟨e1, _, m, sm, mq, L1, L2⟩ := lz_c hL
    have hs : h.toNat = a := by omega
    refine ⟨?_, ?_⟩
    · have o1 := o.1
      rw [hs] at o1 ⊢
      unfold stg at o1 ⊢
      rw [hj a (Nat.le_refl _)]
      exact o1
    · have o2 := o.2
      rw [hs] at o2 ⊢
      exact ih m q _ L2 (fun j ja => hj j (by omega)) o2
theorem dv_b (x : Int64) : -9223372036854776 ≤ (x / (1000 : Int64)).toInt ∧ (x / (1000 : Int64)).toInt ≤ 9223372036854776 := by
  have h1 := Int64.le_toInt x
  have h2 := Int64.toInt_lt x
  have e : (x / (1000 : Int64)).toInt = x.toInt.tdiv 1000 := by
    rw [Int64.toInt_div_of_ne_right x 1000 (by decide)]
    rfl
  rw [e]
  rcases Int.le_total 0 x.toInt with h | h
  · rw [Int.tdiv_eq_ediv_of_nonneg h]
    omega
  · have e2 : x.toInt.tdiv 1000 = -((-x.toInt).tdiv 1000) := by rw [Int.neg_tdiv, Int.neg_neg]
    rw [e2, Int.tdiv_eq_ediv_of_nonneg (by omega)]
    omega
theorem lg_0 {x : Int64} : (lg_cmp x (0 : Int64)).toInt = 0 ↔ x.toInt = 0 := by
  have := nb_cmp x 0
  have e : (0 : Int64).toInt = 0 := by decide
  omega
theorem le19 {l : Pl} {v v' : MW} (F : FR l v v') (ho : hit l 61 19 = false) : (v.1 61 19).toInt ≤ (v'.1 61 19).toInt := by
  rw [(F 61 19 ho).1]
  exact Int.le_refl _
theorem mn_k {l : Pl} {v v' w w2 w' : MW} (F : FR l v v') (ho : hit l 61 19 = false) (a : SgR false w w2) (b : SgR false w2 w') : MnR false v w v' w' := ⟨le19 F ho, sgr_t a b⟩
theorem so_v {v v' v2 : MW} (hn : ∀ j, nxC v' j = nxC v j) : ∀ (l : List Nat) (h : Int), SO0 v v2 l h → SO0 v' v2 l h := by
  intro l
  induction l with
  | nil => exact fun _ _ => trivial
  | cons c cs ih => exact fun h o => ⟨o.1, by rw [hn]; exact ih _ o.2⟩
